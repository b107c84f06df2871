/** Promises 19 and 20: levels and the best cuts at their bounds. */
final class CutBounds {
    private static final int NONE = -1;
    private static final String SO_MANY =
        "For so many PIECES (0 .. 200) in so many weeks (0 .. 8), beginning at a LEVEL";
    private static final String NONE_LESS =
        "each week at one LEVEL, none less than that of the week ahead (that at which it begins, for the first one)";
    private static final String BEST =
        "BEST: the greatest sum of prices; of several rows of LEVELS the first by them, the lesser first.";

    private CutBounds() {
    }

    static void all() {
        levels();
        levelRefused();
        pieces();
        weeks();
        noneLess();
        asManyAsWant();
        greatest();
        lesserFirst();
        what();
        refused();
    }

    private static void levels() {
        Bound b = new Bound(19, "LEVELS 0 .. 3 have a price (0 .. 999) and how many a week want it (0 .. 99).");
        b.outside("level # 5 5", 0, 3).inside("level # 5 5", 0, 3, 1).outside("level 0 # 5", 0, 999);
        b.inside("level 0 # 5", 0, 999, 1).outside("level 0 5 #", 0, 99).inside("level 0 5 #", 0, 99, 1);
        b.due("level 3 999 99", 1).due("best 200 1 3 0", 98901).due("best 200 1 0 10", 3).due("level 3 999 0", 1);
        b.due("best 200 1 3 0", 0).due("best 200 1 3 1", 200).due("level 3 0 99", 1).due("best 200 1 3 0", 0);
        b.due("best 200 1 3 1", 101).due("level 0 1 1", 1).due("best 200 1 0 0", 1).due("best 200 1 1 0", 0);
        b.due("level 1 2 1", 1).due("best 200 1 1 0", 2).due("level 2 3 1", 1).due("best 200 1 2 0", 3);
    }

    private static void levelRefused() {
        Bound b = new Bound(19, "A LEVEL's price and how many want it: true; false, and nothing is done, if one can't be.");
        b.anew(Bound.STORE).outside("level # 5 5", 0, 3).outside("level 3 # 5", 0, 999).outside("level 3 5 #", 0, 99);
        b.refused("level 0 1000 5", "level 0 5 100", "level 4 1000 100", "level -1 -1 -1", "level 0 -1 100");
        b.due("level 0 999 99", 1).due("best 99 1 0 0", 98901).due("level 0 0 0", 1).due("best 99 1 0 0", 900);
    }

    private static void pieces() {
        Bound b = new Bound(20, SO_MANY);
        b.anew("level 0 5 99", "level 1 3 99").outside("best # 3 0 0", 0, 200).due("best 0 3 0 0", 0).due("best 0 3 0 1", 0);
        b.due("best 1 3 0 0", 5).due("best 199 3 0 0", 995).due("best 200 3 0 0", 1000).due("best 200 3 0 1", 0);
        b.due("best 200 2 0 0", 990).due("best 200 2 0 1", 2).due("best 0 3 1 12", 1);
    }

    private static void weeks() {
        Bound b = new Bound(20, SO_MANY);
        b.anew("level 0 5 3", "level 3 4 3").outside("best 20 # 0 0", 0, 8);
        b.due("best 20 0 0 0", 0).due("best 20 0 0 1", 20).due("best 20 1 0 0", 15).due("best 20 1 0 1", 17);
        b.due("best 200 7 0 0", 105).due("best 200 8 0 0", 120).due("best 200 8 0 1", 176);
        b.outside("best 20 3 # 0", 0, 3).due("best 20 3 0 0", 45).due("best 20 3 3 0", 36).due("best 20 3 1 10", 3);
        b.due("best 0 0 0 0", 0).due("best 200 0 3 1", 200);
    }

    private static void noneLess() {
        Bound b = new Bound(20, NONE_LESS);
        b.anew("level 0 10 9", "level 1 60 1").due("best 9 2 0 0", 120).due("best 9 2 0 10", 1).due("best 9 2 0 11", 1);
        b.due("best 9 2 0 1", 7).due("best 10 2 0 0", 150).due("best 10 2 0 10", 0).due("best 10 2 0 11", 1);
        b.anew("level 0 100 9", "level 1 7 9", "level 2 8 9", "level 3 1 9");
        int[][] due = {{0, 900, 0}, {1, 72, 2}, {2, 72, 2}, {3, 9, 3}};
        for (int[] d : due) {
            b.due("best 9 1 " + d[0] + " 0", d[1]).due("best 9 1 " + d[0] + " 10", d[2]);
        }
        b.due("best 18 2 1 10", 2).due("best 18 2 1 11", 2).due("best 18 2 3 11", 3).due("best 18 2 0 11", 0);
    }

    private static void asManyAsWant() {
        Bound b = new Bound(20, "as many are sold as want it, or are left.");
        b.anew("level 0 10 5");
        int[][] due = {{4, 40, 0}, {5, 50, 0}, {6, 50, 1}};
        for (int[] d : due) {
            b.due("best " + d[0] + " 1 0 0", d[1]).due("best " + d[0] + " 1 0 1", d[2]);
        }
        int[][] twice = {{9, 90, 0}, {10, 100, 0}, {11, 100, 1}};
        for (int[] d : twice) {
            b.due("best " + d[0] + " 2 0 0", d[1]).due("best " + d[0] + " 2 0 1", d[2]);
        }
    }

    private static void greatest() {
        Bound b = new Bound(20, BEST);
        b.anew("level 0 10 5", "level 1 5 10").due("best 20 1 0 10", 0).due("best 20 1 0 0", 50);
        b.then("level 1 5 11").due("best 20 1 0 10", 1).due("best 20 1 0 0", 55).then("level 1 5 9");
        b.due("best 20 1 0 10", 0).then("level 0 999 99", "level 1 999 99", "level 2 999 99", "level 3 999 99");
        b.due("best 200 8 0 0", 199800).due("best 200 8 0 1", 0).due("best 200 8 0 17", 0);
    }

    private static void lesserFirst() {
        Bound b = new Bound(20, BEST);
        b.anew("level 0 10 2", "level 1 5 4", "level 2 10 2");
        int[][] rows = {{0, 0, 0}, {1, 2, 2}, {2, 2, 2}, {3, 3, 3}};
        for (int from = 0; from <= 3; from++) {
            for (int week = 0; week < 3; week++) {
                b.due("best 8 3 " + from + " " + (10 + week), rows[from][week]);
            }
        }
        b.due("best 8 3 0 1", 2).due("best 8 3 1 1", 0).due("best 8 3 1 0", 60).anew();
        for (int from = 0; from <= 3; from++) {
            b.due("best 200 8 " + from + " 10", from).due("best 200 8 " + from + " 17", from).due("best 0 8 " + from + " 14", from);
        }
        b.anew("level 1 10 2", "level 2 10 2").due("best 4 2 0 10", 1).due("best 4 2 0 11", 1);
        b.due("best 2 2 0 10", 0).due("best 2 2 0 11", 1).due("best 2 2 1 11", 1);
    }

    private static void what() {
        Bound b = new Bound(20, "BEST of so many PIECES in so many weeks from a LEVEL on: what 0 the sum, 1 PIECES left, "
            + "10 + w the LEVEL of week w.");
        b.anew("level 0 10 2", "level 3 9 9").due("best 4 2 0 0", 40).due("best 4 2 0 1", 0).due("best 4 2 0 10", 0);
        b.due("best 4 2 0 11", 0).due("best 11 2 0 0", 101).due("best 11 2 0 10", 0).due("best 11 2 0 11", 3);
        b.due("best 200 8 0 0", 648).due("best 200 8 0 10", 3).due("best 200 8 0 17", 3).due("best 200 8 0 1", 128);
    }

    private static void refused() {
        Bound b = new Bound(20, "NONE if one can't be, or another what.");
        b.anew(Bound.STORE).outside("best # 3 0 0", 0, 200).outside("best 20 # 0 0", 0, 8).outside("best 20 3 # 0", 0, 3);
        b.outside("best 20 3 0 #", 0, 1).refused("best 20 0 0 9", "best 20 0 0 10", "best 201 9 4 2", "best -1 -1 -1 -1");
        for (int weeks = 1; weeks <= 8; weeks++) {
            b.outside("best 20 " + weeks + " 3 #", 10, 9 + weeks).inside("best 20 " + weeks + " 3 #", 10, 9 + weeks, 3);
        }
        b.refused("best 201 3 0 10", "best 20 9 0 10", "best 20 3 4 10", "best -1 3 0 1");
    }
}
