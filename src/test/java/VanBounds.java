/** Promises 10 and 11: the van's rounds and the houses of the latest, at their bounds. */
final class VanBounds {
    private static final int NONE = -1;
    private static final String THROUGH_HOUSES =
        "A round goes through HOUSES by the least number of a SLIP with a PARCEL there; all PARCELS of the HOUSE are taken "
        + "if their PIECES have room still, else none of them (and the next HOUSE is asked).";

    private VanBounds() {
    }

    static void all() {
        twoRounds();
        room();
        roomForAll();
        refused();
        whichAreParcels();
        leastNumber();
        allOrNone();
        nextHouse();
        houses();
        housesOfTheLatest();
    }

    private static void twoRounds() {
        Bound b = new Bound(10, "VAN: two rounds a DAY at most, each with room for so many PIECES.");
        b.anew("thing 10 99", "slip 0 0 -1 0 2 4 0", "slip 0 0 -1 0 2 5 0", "slip 0 0 -1 0 2 6 0");
        b.due("van 2", 2).due("van 2", 2).refused("van 2", "van 0").due("look 4", 1).then("next").due("look 5", 0);
        b.due("van 2", 2).due("paper 0 6", 0).due("paper 1 6", 1).due("paper 2 6", 2).due("van 2", 0).refused("van 2");
        b.anew("363 next").due("van 0", 0).due("van 0", 0).refused("van 0");
    }

    private static void room() {
        Bound b = new Bound(10, "A round with room for so many PIECES (0 .. 500): how many PIECES went.");
        b.outside("van #", 0, 500).inside("van #", 0, 500, 0).anew(Bound.STORE).outside("van #", 0, 500);
        b.would("van 0", 0).would("van 5", 0).would("van 6", 6).would("van 7", 6).would("van 500", 6);
        b.due("van 0", 0).due("look 5", 2).due("look 4", 1);
    }

    private static void roomForAll() {
        Bound b = new Bound(10, "A round with room for so many PIECES (0 .. 500): how many PIECES went.");
        b.anew("thing 10 999", "5 slip 0 0 -1 0 99 3 0", "slip 0 0 -1 0 5 3 0").would("van 499", 0).would("van 500", 500);
        b.then("slip 0 0 -1 0 1 3 0").would("van 500", 0).refused("van 501").due("back 6", 1).due("van 500", 500);
        b.anew("thing 10 999", "5 slip 0 0 -1 0 99 3 0", "slip 0 0 -1 0 5 2 0", "slip 0 0 -1 0 1 1 0");
        b.would("van 499", 496).would("van 500", 500).due("van 500", 500).due("look 4", 1).due("van 500", 1);
    }

    private static void refused() {
        Bound b = new Bound(10, "NONE, and nothing is done: that can't be, or two went today.");
        b.anew(Bound.STORE).refused("van -1", "van 501").due("van 6", 6);
        b.refused("van 0", "van 1", "van 6", "van 500", "van -1", "van 501").due("house 0", 7);
        b.then("slip 1 0 0 0 1 2 3").refused("van 1").then("next").refused("van 501").due("van 1", 1).due("house 0", 2);
    }

    private static void whichAreParcels() {
        Bound b = new Bound(10, "PARCELS are SLIPS with a HOUSE that are neither out nor BACK.");
        b.anew("thing 10 99", "slip 0 0 -1 0 1 -1 0", "slip 0 0 -1 0 2 0 0", "slip 1 0 0 0 4 0 0", "slip 2 0 0 0 8 0 0");
        b.would("van 500", 14).due("back 2", 1).would("van 9", 0).due("van 10", 10).due("paper 0 6", NONE);
        b.due("paper 1 6", 0).due("paper 2 6", NONE).due("paper 3 6", 0).due("van 500", 0).due("house 0", NONE);
    }

    private static void leastNumber() {
        Bound b = new Bound(10, THROUGH_HOUSES);
        String[] slips = {"thing 10 99", "slip 0 0 -1 0 1 9 0", "slip 0 0 -1 0 1 2 0", "slip 0 0 -1 0 1 9 0",
            "slip 0 0 -1 0 1 0 0"};
        b.anew(slips).then("van 500").due("house 0", 9).due("house 1", 2).due("house 2", 0).due("house 3", NONE);
        b.anew(slips).then("back 0", "van 500").due("house 0", 2).due("house 1", 9).due("house 2", 0);
        b.anew(slips).then("back 1", "van 500").due("house 0", 9).due("house 1", 0).due("house 2", NONE);
        b.anew("thing 10 99", "slip 0 0 -1 0 1 9 0", "van 1", "slip 0 0 -1 0 1 2 0", "slip 0 0 -1 0 1 9 0", "van 2");
        b.due("house 0", 2).due("house 1", 9).due("house 2", NONE).due("paper 0 6", 0).due("paper 2 6", 1);
    }

    private static void allOrNone() {
        Bound b = new Bound(10, THROUGH_HOUSES);
        b.anew("thing 10 99", "slip 0 0 -1 0 3 4 0", "slip 1 0 0 0 4 4 0").would("van 3", 0).would("van 6", 0);
        b.would("van 7", 7).would("van 8", 7).due("van 6", 0).due("look 4", 2).due("paper 0 6", NONE);
        b.due("house 0", NONE).due("van 7", 7).due("look 4", 0).due("paper 0 6", 1).due("paper 1 6", 1);
    }

    private static void nextHouse() {
        Bound b = new Bound(10, THROUGH_HOUSES);
        String[] slips = {"thing 10 99", "slip 0 0 -1 0 7 4 0", "slip 0 0 -1 0 6 2 0", "slip 0 0 -1 0 1 3 0"};
        int[][] due = {{0, 0, NONE, NONE}, {1, 1, 3, NONE}, {5, 1, 3, NONE}, {6, 6, 2, NONE}, {7, 7, 4, NONE},
            {8, 8, 4, 3}, {12, 8, 4, 3}, {13, 13, 4, 2}, {14, 14, 4, 2}, {15, 14, 4, 2}};
        for (int[] d : due) {
            b.anew(slips).due("van " + d[0], d[1]).due("house 0", d[2]).due("house 1", d[3]);
        }
        b.due("house 2", 3).due("house 3", NONE);
    }

    private static void houses() {
        Bound b = new Bound(11, "HOUSE i of the latest round, in its order; NONE if there is none such.");
        b.refused("house 0").anew("thing 10 999");
        for (int h = 19; h >= 0; h--) {
            b.then("slip 0 0 -1 0 1 " + h + " 0");
        }
        b.refused("house 0").then("van 19").due("house 0", 19).due("house 18", 1).due("house 19", NONE).then("van 1");
        b.due("house 0", 0).due("house 1", NONE).then("next");
        for (int h = 19; h >= 0; h--) {
            b.then("slip 0 0 -1 0 1 " + h + " 1");
        }
        b.then("van 20").outside("house #", 0, 19);
        for (int i = 0; i <= 19; i++) {
            b.due("house " + i, 19 - i);
        }
    }

    private static void housesOfTheLatest() {
        Bound b = new Bound(11, "HOUSE i of the latest round, in its order; NONE if there is none such.");
        b.anew(Bound.STORE).due("house 0", 4).due("house 1", 8).due("house 2", NONE).outside("house #", 0, 1);
        b.then("van 501").due("house 0", 4).then("next").due("house 1", 8).then("back 0").due("house 0", 4);
        b.then("van 0").due("house 0", NONE).outside("house #", 0, -1).then("van 6").due("house 0", 7).then("van 6");
        b.due("house 0", 7).due("house 1", NONE);
    }
}
