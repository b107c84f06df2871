/** Promises 1 to 5 and 18: a new object, things, tags, days and counts at their bounds. */
final class GoodsBounds {
    private static final int NONE = -1;
    private static final int LOW = Integer.MIN_VALUE;
    private static final int HIGH = Integer.MAX_VALUE;
    private static final String TAGS = "have a TAG (1 .. 9999) for each DAY";

    private GoodsBounds() {
    }

    static void all() {
        newObject();
        theLastCall();
        days();
        thingsNumbered();
        thingsTag();
        thingsStock();
        thingRefused();
        tagsRange();
        tagOfTheDayAhead();
        tagFromNowOn();
        tagRefused();
        ofWhat();
        ofRefused();
        next();
        nextRefused();
        count();
        countRefused();
        lostByTheTag();
        lostWraps();
    }

    private static void newObject() {
        Bound b = new Bound(1, "DAY 0, nothing there.");
        for (int what = 0; what <= 6; what++) {
            b.due("look " + what, 0);
        }
        b.due("of 0 0", NONE).due("of 0 1000", NONE).due("paper 0 0", NONE).due("house 0", NONE);
        b.due("fault 0", 0).due("fault 1", NONE).would("end 0", 1).would("end 1", 0).would("rule", 0);
        b.would("back 0", 0).would("van 500", 0).would("tag 0 1", NONE).would("next", 1);
        for (int what = 0; what <= 3; what++) {
            b.inside("pay # 0 " + what, 0, 7, 0).inside("pay 0 # " + what, 0, 12, 0);
        }
        b.due("pay 0 0 4", NONE).inside("statement # 0 0", 0, 9, 0);
        b.due("best 200 8 0 0", 0).due("best 200 8 0 1", 200).due("best 200 8 3 17", 3);
        new Bound(1, "The constants: `NONE = -1`: There is none.").due("house 0", GreatStore.NONE).due("house 0", -1);
    }

    private static void theLastCall() {
        Bound b = new Bound(1, "An object is used for at most 512 calls after it has been made");
        b.anew("thing 5 9", "510 look 0").due("thing 5 9", 1);
    }

    private static void days() {
        Bound b = new Bound(5, "DAYS 0 .. 363 (0 now, at first)");
        b.due("look 0", 0).anew("thing 5 9").due("of 0 1000", 5).due("of 0 999", NONE);
        b.refused("slip 0 0 -1 0 1 -1 -1");
        b.then("362 next").due("look 0", 362).due("of 0 1363", NONE).refused("slip 0 0 -1 0 1 -1 363");
        b.due("next", 363).due("look 0", 363).due("of 0 1363", 5).due("of 0 1364", NONE);
        b.would("slip 0 0 -1 0 1 -1 363", 0).refused("slip 0 0 -1 0 1 -1 364");
        b.due("statement 0 12 363", 0).due("statement 0 12 364", -1000001);
    }

    private static void thingsNumbered() {
        Bound b = new Bound(2, "THINGS 0 .. 11 (numbered as they come)");
        for (int t = 0; t <= 11; t++) {
            b.due("of " + t + " 0", NONE).due("thing " + (50 + t) + " " + t, t);
            b.due("look 1", t + 1).due("of " + t + " 0", 50 + t).due("of " + t + " 1", t);
        }
        b.due("of 12 0", NONE).due("of -1 0", NONE).refused("thing 62 12");
        b.would("tag 11 1", 1).would("tag 12 1", NONE).would("count 11 11", 0).would("count 12 11", -1000001);
    }

    private static void thingsTag() {
        Bound b = new Bound(2, TAGS);
        b.outside("thing # 5", 1, 9999).inside("thing # 5", 1, 9999, 0);
        b.anew(Bound.STORE).outside("thing # 5", 1, 9999).inside("thing # 5", 1, 9999, 2);
        b.due("thing 1 5", 2).due("of 2 0", 1).due("thing 9999 5", 3).due("of 3 0", 9999);
    }

    private static void thingsStock() {
        Bound b = new Bound(2, "A THING comes with a TAG from now on and a STOCK (0 .. 999): its number");
        b.anew(Bound.STORE).outside("thing 5 #", 0, 999).inside("thing 5 #", 0, 999, 2);
        b.due("thing 5 0", 2).due("of 2 1", 0).due("thing 6 999", 3).due("of 3 1", 999);
        b.due("of 2 1002", 0).due("of 2 1003", 5).due("of 2 1004", NONE).then("next").due("of 2 1004", 5);
        b.due("of 2 2", 0).due("of 2 3", 0);
    }

    private static void thingRefused() {
        Bound b = new Bound(2, "NONE, and nothing is done, if one can't be, or there are 12.");
        b.anew(Bound.STORE).then("9 thing 5 5").due("look 1", 11).refused("thing 0 5", "thing 5 1000", "thing 0 1000");
        b.due("thing 7 8", 11).refused("thing 7 8", "thing 1 0", "thing 9999 999", "thing 0 5", "thing 5 -1");
        b.then("next").refused("thing 7 8");
    }

    private static void tagsRange() {
        Bound b = new Bound(3, TAGS);
        b.anew(Bound.STORE).outside("tag 0 #", 1, 9999).would("tag 0 1", 1).would("tag 0 9999", 2);
        b.due("tag 0 9999", 2).due("of 0 0", 9999).refused("tag 0 10000").due("tag 0 9998", 1);
        b.due("tag 0 1", 1).due("of 0 0", 1).refused("tag 0 0").due("tag 0 2", 2);
    }

    private static void tagOfTheDayAhead() {
        Bound b = new Bound(3, "that of the DAY ahead, unless it is CUT (to less) or RAISED (to more; how often is told)");
        b.anew("thing 50 9", "next").due("of 0 0", 50).due("of 0 1001", 50);
        b.would("tag 0 49", 1).would("tag 0 50", 0).would("tag 0 51", 2);
        b.due("tag 0 49", 1).due("of 0 2", 0).due("tag 0 49", 0).due("of 0 2", 0).due("tag 0 50", 2).due("of 0 2", 1);
        b.due("tag 0 49", 1).due("of 0 2", 1).due("tag 0 50", 2).due("of 0 2", 2).due("tag 0 50", 0).due("of 0 2", 2);
        b.then("next").due("of 0 0", 50).due("of 0 2", 2).due("tag 0 51", 2).due("of 0 2", 3).due("of 0 1001", 50);
        b.due("of 0 1000", 50).due("of 0 1002", 51);
    }

    private static void tagFromNowOn() {
        Bound b = new Bound(3, "From now on THING t has that TAG: 1 a CUT, 2 RAISED, 0 as it was.");
        b.anew("thing 50 9", "thing 60 9", "2 next").due("tag 0 40", 1).due("of 0 0", 40).due("of 0 1001", 50);
        b.due("of 0 1002", 40).due("of 1 0", 60).then("next").due("of 0 1003", 40).due("tag 0 40", 0);
        b.due("tag 0 41", 2).due("tag 0 40", 1).due("of 0 1002", 40).due("of 1 2", 0);
    }

    private static void tagRefused() {
        Bound b = new Bound(3, "NONE, and nothing is done, if one can't be.");
        b.refused("tag 0 5").anew(Bound.STORE).outside("tag # 5", 0, 1).inside("tag # 5", 0, 1, 1);
        b.refused("tag 0 0", "tag 1 10000", "tag 2 0").then("10 thing 5 5").outside("tag # 4", 0, 11);
        b.inside("tag # 4", 0, 11, 1);
    }

    private static void ofWhat() {
        Bound b = new Bound(4, "Of THING t what 0 TAG, 1 STOCK, 2 how often RAISED, 3 LOST, "
            + "1000 + a DAY up to now: its TAG then (0 ahead of its coming).");
        b.anew(Bound.STORE).due("of 0 0", 12).due("of 0 1", 481).due("of 0 2", 1).due("of 0 3", 120);
        b.due("of 0 1000", 10).due("of 0 1001", 10).due("of 0 1002", 12).due("of 0 1003", 12).due("of 0 1004", NONE);
        b.due("of 1 1000", 0).due("of 1 1001", 0).due("of 1 1002", 20).due("of 1 1003", 20).due("of 1 1004", NONE);
        b.then("next").due("of 0 1004", 12).due("of 0 1005", NONE).due("of 0 999", NONE);
    }

    private static void ofRefused() {
        Bound b = new Bound(4, "NONE if there is none such, or another what.");
        b.refused("of 0 0", "of 0 1000").anew(Bound.STORE).outside("of 0 #", 0, 3).outside("of 0 #", 1000, 1003);
        b.outside("of # 0", 0, 1).outside("of # 1000", 0, 1).refused("of 1 500", "of 1 1363", "of 1 1364");
    }

    private static void next() {
        Bound b = new Bound(5, "A DAY goes by: the new one");
        b.anew(Bound.STORE).due("next", 4).due("look 0", 4).due("look 5", 0).due("of 0 1004", 12);
        b.anew("362 next").due("next", 363).due("look 0", 363);
    }

    private static void nextRefused() {
        Bound b = new Bound(5, "NONE, and nothing is done, on DAY 363.");
        b.anew("thing 10 500", "355 next", "slip 2 0 1 0 1 3 355", "next", "slip 2 0 1 0 2 3 356", "next");
        b.then("slip 2 0 1 0 4 3 357", "5 next").due("look 0", 362).due("look 3", 2);
        b.due("next", 363).due("look 3", 1).then("van 0", "slip 0 0 -1 0 1 4 335", "van 1", "text pay 1 when 1=1;");
        b.refused("next").due("next", NONE).refused("next").due("look 0", 363).due("look 5", 2).due("look 3", 1);
    }

    private static void count() {
        Bound b = new Bound(18, "LACKS: STOCK less what was counted (below 0: too many); "
            + "the STOCK becomes what was counted.");
        b.anew(Bound.STORE).would("count 0 480", 1).would("count 0 481", 0).would("count 0 482", -1);
        b.due("count 0 482", -1).due("of 0 1", 482).due("count 0 482", 0).due("of 0 1", 482);
        b.due("count 0 0", 482).due("of 0 1", 0).due("count 0 9999", -9999).due("of 0 1", 9999).due("of 1 1", 295);
        b.due("back 0", 1).due("of 0 1", 10002).due("count 0 9999", 3).due("of 0 1", 9999);
    }

    private static void countRefused() {
        Bound b = new Bound(18, "NONE - 1000000, and nothing is done: none such, n is not 0 .. 9999.");
        b.refused("count 0 0").anew(Bound.STORE).outside("count 0 #", 0, 9999);
        b.would("count 0 0", 481).would("count 0 9999", 481 - 9999);
        b.outside("count # 5", 0, 1).would("count 0 5", 476).would("count 1 5", 290).refused("count 2 10000");
    }

    private static void lostByTheTag() {
        Bound b = new Bound(18, "LOST of a THING: the sum of its LACKS, each by the TAG as it was counted");
        b.anew("thing 10 50").due("count 0 47", 3).due("of 0 3", 30).then("tag 0 7").due("of 0 3", 30);
        b.due("count 0 49", -2).due("of 0 3", 16).due("count 0 49", 0).due("of 0 3", 16);
        b.due("count 0 52", -3).due("of 0 3", -5).then("next", "tag 0 9999").due("count 0 51", 1).due("of 0 3", 9994);
    }

    private static void lostWraps() {
        Bound b = new Bound(18, "(an int, it wraps)");
        b.anew("thing 1 0");
        for (int i = 0; i < 21; i++) {
            lose(b, 9999, 9999);
        }
        lose(b, 4812, 9999);
        lose(b, 3229 - 1, 2);
        b.due("of 0 3", HIGH - 1);
        lose(b, 1, 2);
        b.due("of 0 3", HIGH);
        lose(b, 1, 2);
        b.due("of 0 3", LOW);
        b.anew("thing 1 0");
        for (int i = 0; i < 21; i++) {
            gain(b, 9999, 9999);
        }
        gain(b, 4812, 9999);
        gain(b, 3229, 2);
        b.due("of 0 3", LOW + 1);
        gain(b, 1, 2);
        b.due("of 0 3", LOW);
        gain(b, 1, 2);
        b.due("of 0 3", HIGH);
    }

    /** What is lost grows by n (tag - 1). */
    private static void lose(Bound b, int n, int tag) {
        b.then("tag 0 1", "count 0 " + n, "tag 0 " + tag, "count 0 0");
    }

    private static void gain(Bound b, int n, int tag) {
        b.then("tag 0 " + tag, "count 0 " + n, "tag 0 1", "count 0 0");
    }
}
