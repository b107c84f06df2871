/** Promises 6 to 9: slips, their papers, what comes back, and what can be looked at, at their bounds. */
final class SlipBounds {
    private static final int NONE = -1;
    private static final String SOLD = "APPROVAL 7 DAYS behind its DAY, if it has not come BACK till then";
    private static final String TOLD_LATER =
        "(as that DAY begins; one that is told later is SOLD as it is told: its DAY SOLD is that 7th DAY, too).";
    private static final String CAN_COME_BACK =
        "One that is SOLD can come BACK up to 28 DAYS behind the DAY on which it was SOLD; on APPROVAL until it is SOLD.";
    private static final String LATE = "its DAY (now, or one of the 28 ahead: told LATE)";

    private SlipBounds() {
    }

    static void all() {
        numbered();
        kind();
        clerk();
        account();
        pieces();
        house();
        day();
        worth();
        outOfStock();
        slipRefused();
        soldOnItsDay();
        soldBehindApproval();
        soldAsTold();
        approvalAtTheEnd();
        paper();
        paperRefused();
        backOfSold();
        backOfApproval();
        backOfLate();
        backToStock();
        backRefused();
        look();
        parcels();
    }

    private static void numbered() {
        Bound b = new Bound(6, "SLIPS are numbered as they are told (120 at most)");
        b.anew("thing 10 999").due("slip 1 0 0 0 1 4 0", 0).due("slip 2 0 0 0 1 4 0", 1);
        b.then("117 slip 0 0 -1 0 1 4 0").due("look 2", 119).due("paper 118 0", 0).due("paper 119 0", NONE);
        b.due("slip 0 0 -1 0 2 4 0", 119).due("paper 119 1", 20).due("look 2", 120);
        b.refused("slip 0 0 -1 0 1 4 0", "slip 2 7 9 0 1 -1 0").due("paper 120 0", NONE);
        b.due("back 5", 1).due("van 500", 120).refused("slip 0 0 -1 0 1 4 0").then("next");
        b.refused("slip 0 0 -1 0 1 4 1", "slip 0 0 -1 0 0 4 1").due("look 2", 120);
    }

    private static void kind() {
        Bound b = new Bound(6, "KIND 0 CASH, 1 CHARGE, 2 APPROVAL");
        b.anew(Bound.STORE).outside("slip # 0 -1 0 1 -1 3", 0, 2).outside("slip # 0 0 0 1 -1 3", 0, 2);
        b.due("slip 0 0 -1 0 1 -1 3", 5).due("slip 1 0 0 0 1 -1 3", 6).due("slip 2 0 0 0 1 -1 3", 7);
        b.due("paper 5 0", 0).due("paper 6 0", 0).due("paper 7 0", 1);
    }

    private static void clerk() {
        Bound b = new Bound(6, "a CLERK 0 .. 7");
        b.anew(Bound.STORE).outside("slip 1 # 0 0 1 -1 3", 0, 7).inside("slip 1 # 0 0 1 -1 3", 0, 7, 5);
        b.due("pay 0 0 0", 0).due("pay 7 0 0", 0).then("slip 1 0 0 0 1 -1 3", "slip 1 7 0 0 2 -1 3");
        b.due("pay 0 0 0", 12).due("pay 7 0 0", 24);
    }

    private static void account() {
        Bound b = new Bound(6, "an ACCOUNT 0 .. 9 (none of CASH)");
        b.anew(Bound.STORE).outside("slip 1 0 # 0 1 -1 3", 0, 9).inside("slip 1 0 # 0 1 -1 3", 0, 9, 5);
        b.outside("slip 2 0 # 0 1 -1 3", 0, 9).inside("slip 2 0 # 0 1 -1 3", 0, 9, 5);
        b.outside("slip 0 0 # 0 1 -1 3", -1, -1).would("slip 0 0 -1 0 1 -1 3", 5);
        b.refused("slip 0 0 9 0 1 -1 3", "slip 0 0 10 0 1 -1 3");
        b.then("slip 1 0 0 0 1 -1 3", "slip 1 0 9 0 2 -1 3").due("statement 0 0 3", 12).due("statement 9 0 3", 24);
    }

    private static void pieces() {
        Bound b = new Bound(6, "a THING, a number of PIECES (1 .. 99)");
        b.anew(Bound.STORE).outside("slip 1 0 0 0 # -1 3", 1, 99).inside("slip 1 0 0 0 # -1 3", 1, 99, 5);
        b.due("slip 1 0 0 0 1 -1 3", 5).due("of 0 1", 480).due("slip 1 0 0 0 99 -1 3", 6).due("of 0 1", 381);
        b.outside("slip 1 0 0 # 1 -1 3", 0, 1).inside("slip 1 0 0 # 1 -1 3", 0, 1, 7);
        b.anew("next").refused("slip 1 0 0 0 1 -1 1").then("12 thing 5 5");
        b.outside("slip 1 0 0 # 1 -1 1", 0, 11).inside("slip 1 0 0 # 1 -1 1", 0, 11, 0);
    }

    private static void house() {
        Bound b = new Bound(6, "a HOUSE 0 .. 19 to which they go (or none)");
        b.anew(Bound.STORE).outside("slip 1 0 0 0 1 # 3", -1, 19).inside("slip 1 0 0 0 1 # 3", 0, 19, 5);
        b.would("slip 1 0 0 0 1 -1 3", 5).anew("thing 5 9", "slip 1 0 0 0 1 19 0", "slip 1 0 0 0 1 0 0");
        b.then("slip 1 0 0 0 1 -1 0", "van 500").due("house 0", 19).due("house 1", 0).due("house 2", NONE);
        new Bound(6, "A SLIP (account, house -1: none): its number.").anew("thing 5 9")
            .due("slip 0 0 -1 0 1 -1 0", 0).due("look 4", 0).due("slip 1 0 0 0 1 0 0", 1).due("look 4", 1)
            .refused("slip 0 0 0 0 1 -1 0", "slip 0 0 -2 0 1 -1 0", "slip 0 0 -1 0 1 -2 0", "slip 1 0 -1 0 1 -1 0");
    }

    private static void day() {
        Bound b = new Bound(6, LATE);
        b.anew(Bound.STORE).outside("slip 1 0 0 0 1 -1 #", 0, 3).inside("slip 1 0 0 0 1 -1 #", 0, 3, 5);
        b.then("24 next").due("look 0", 27).outside("slip 1 0 0 0 1 -1 #", 0, 27).inside("slip 1 0 0 0 1 -1 #", 0, 27, 5);
        b.then("next").outside("slip 1 0 0 0 1 -1 #", 0, 28).inside("slip 1 0 0 0 1 -1 #", 0, 28, 5);
        b.then("next").outside("slip 1 0 0 0 1 -1 #", 1, 29).inside("slip 1 0 0 0 1 -1 #", 1, 29, 5);
        b.due("slip 1 0 0 0 1 -1 1", 5).due("paper 5 2", 1).due("paper 5 3", 29).due("paper 5 4", 1);
        b.outside("slip 0 0 -1 0 1 -1 #", 1, 29).outside("slip 2 0 0 0 1 -1 #", 1, 29);
        b.anew("thing 5 9", "363 next").outside("slip 1 0 0 0 1 -1 #", 335, 363);
        b.inside("slip 1 0 0 0 1 -1 #", 335, 363, 0);
    }

    private static void worth() {
        Bound b = new Bound(6, "WORTH: PIECES times the TAG of its DAY, as that is when it is told.");
        b.anew("thing 1 999", "slip 0 0 -1 0 1 -1 0", "tag 0 9999", "slip 0 0 -1 0 99 -1 0");
        b.due("paper 0 1", 1).due("paper 1 1", 989901);
        b.then("tag 0 9998", "slip 0 0 -1 0 1 -1 0", "next", "tag 0 7", "slip 0 0 -1 0 1 -1 1", "slip 0 0 -1 0 1 -1 0");
        b.then("tag 0 8", "slip 0 0 -1 0 1 -1 1").due("paper 1 1", 989901).due("paper 2 1", 9998);
        b.due("paper 3 1", 7).due("paper 4 1", 9998).due("paper 5 1", 8);
    }

    private static void outOfStock() {
        Bound b = new Bound(6, "The PIECES come out of STOCK as it is told.");
        b.anew(Bound.STORE).then("count 1 50").outside("slip 1 0 0 1 # -1 3", 1, 50);
        b.inside("slip 1 0 0 1 # -1 3", 1, 50, 5).due("slip 1 0 0 1 49 -1 3", 5).due("of 1 1", 1);
        b.outside("slip 1 0 0 1 # -1 2", 1, 1).due("slip 2 0 0 1 1 -1 2", 6).due("of 1 1", 0);
        b.refused("slip 1 0 0 1 1 -1 3", "slip 0 0 -1 1 1 -1 3", "slip 2 0 0 1 1 -1 3", "slip 1 0 0 1 0 -1 3");
        b.due("back 6", 1).due("of 1 1", 1).would("slip 1 0 0 1 1 -1 3", 7).refused("slip 1 0 0 1 2 -1 3");
        b.then("count 1 98").outside("slip 1 0 0 1 # -1 3", 1, 98).then("count 1 99").outside("slip 1 0 0 1 # -1 3", 1, 99);
        b.inside("slip 1 0 0 1 # -1 3", 1, 99, 7).anew("thing 5 0").refused("slip 1 0 0 0 1 -1 0");
    }

    private static void slipRefused() {
        Bound b = new Bound(6, "NONE, and nothing is done: something can't be, the THING came on a later DAY, "
            + "STOCK has not so many, or there are 120.");
        b.anew(Bound.STORE).outside("slip 1 0 0 1 1 -1 #", 2, 3).inside("slip 1 0 0 1 1 -1 #", 2, 3, 5);
        b.then("40 next", "thing 9 9").refused("slip 1 0 0 2 1 -1 42", "slip 1 0 0 2 1 -1 44");
        b.would("slip 1 0 0 2 1 -1 43", 5).then("next").outside("slip 1 0 0 2 9 -1 #", 43, 44);
        b.inside("slip 1 0 0 2 9 -1 #", 43, 44, 5).refused("slip 1 0 0 2 10 -1 43", "slip 3 8 10 3 0 20 45");
        b.anew("thing 10 999", "120 slip 2 0 0 0 1 -1 0").refused("slip 2 0 0 0 1 -1 0");
    }

    private static void soldOnItsDay() {
        Bound b = new Bound(7, "A SLIP is SOLD: CASH, CHARGE on its DAY");
        b.anew("thing 10 99", "30 next", "slip 0 0 -1 0 1 -1 30", "slip 1 0 0 0 1 -1 30");
        b.then("slip 0 0 -1 0 1 -1 2", "slip 1 0 0 0 1 -1 29");
        int[] sold = {30, 30, 2, 29};
        for (int i = 0; i < 4; i++) {
            b.due("paper " + i + " 0", 0).due("paper " + i + " 4", sold[i]);
        }
    }

    private static void soldBehindApproval() {
        Bound b = new Bound(7, SOLD);
        b.anew("thing 10 99", "10 next", "3 slip 2 0 0 0 1 -1 10").due("paper 0 0", 1).due("paper 0 4", NONE);
        b.then("6 next").due("look 0", 16).due("paper 0 0", 1).due("paper 0 4", NONE).due("look 3", 3);
        b.due("back 1", 1).due("paper 1 0", 2).due("paper 1 4", NONE).due("look 3", 2);
        b.then("next").due("paper 0 0", 0).due("paper 0 4", 17).due("look 3", 0);
        b.due("paper 1 0", 2).due("paper 1 4", NONE).due("back 2", 1).due("paper 2 0", 2).due("paper 2 4", 17);
        b.due("paper 2 5", 17).then("next").due("paper 0 4", 17).due("paper 1 4", NONE).due("paper 2 4", 17);
        b.due("pay 0 0 1", 2).due("pay 0 0 0", 10).due("pay 0 0 2", 10);
    }

    private static void soldAsTold() {
        Bound b = new Bound(7, TOLD_LATER);
        b.anew("thing 10 99", "28 next", "slip 2 0 0 0 1 -1 22", "slip 2 0 0 0 1 -1 21", "slip 2 0 0 0 1 -1 20");
        b.then("slip 2 0 0 0 1 -1 0").due("paper 0 0", 1).due("paper 0 4", NONE).due("paper 1 0", 0).due("paper 1 4", 28);
        b.due("paper 2 0", 0).due("paper 2 4", 27).due("paper 3 0", 0).due("paper 3 4", 7).due("look 3", 1);
        b.due("pay 0 0 1", 2).due("pay 0 1 1", 1);
        b.then("next").due("paper 0 0", 0).due("paper 0 4", 29).due("look 3", 0).due("pay 0 1 1", 2);
    }

    private static void approvalAtTheEnd() {
        Bound b = new Bound(7, SOLD);
        b.anew("thing 10 99", "357 next", "slip 2 0 0 0 1 -1 356", "slip 2 0 0 0 1 -1 357", "5 next").due("look 3", 2);
        b.then("next").due("paper 0 4", 363).due("paper 1 4", NONE).due("paper 1 0", 1).due("next", NONE);
        b.due("paper 1 0", 1).would("back 1", 1).would("back 0", 1);
    }

    private static void paper() {
        Bound b = new Bound(7, "Of SLIP i what 0 its state (0 SOLD, 1 on APPROVAL, 2 BACK), 1 WORTH, 2 its DAY, "
            + "3 that on which it was told, 4 that on which it was SOLD (NONE), 5 that on which it came BACK (NONE), "
            + "6 the round in which it went out (2 times the DAY, and 0 or 1; NONE).");
        b.anew(Bound.STORE).then("van 500");
        int[][] due = {{0, 36, 2, 3, 2, NONE, 6}, {2, 24, 3, 3, 3, 3, NONE}, {1, 80, 3, 3, NONE, NONE, NONE},
            {1, 72, 3, 3, NONE, NONE, 7}, {0, 20, 2, 3, 2, NONE, 6}};
        for (int i = 0; i < due.length; i++) {
            for (int what = 0; what <= 6; what++) {
                b.due("paper " + i + " " + what, due[i][what]);
            }
        }
        b.anew("thing 10 9", "slip 0 0 -1 0 1 4 0", "van 1").due("paper 0 6", 0);
        b.anew("thing 10 9", "363 next", "slip 0 0 -1 0 1 4 363", "van 0", "van 1").due("paper 0 6", 727);
    }

    private static void paperRefused() {
        Bound b = new Bound(7, "NONE if there is none such, or another what.");
        b.refused("paper 0 0").anew(Bound.STORE).outside("paper 0 #", 0, 6).outside("paper # 0", 0, 4);
        b.outside("paper # 1", 0, 4).refused("paper 5 7", "paper 120 0");
    }

    private static void backOfSold() {
        Bound b = new Bound(8, CAN_COME_BACK);
        b.anew("thing 10 99", "10 next", "slip 0 0 -1 0 1 4 10", "slip 1 0 0 0 2 5 10").inside("back #", 0, 1, 1);
        b.then("27 next").inside("back #", 0, 1, 1).then("next").due("look 0", 38).inside("back #", 0, 1, 1);
        b.then("next").refused("back 0", "back 1").due("paper 0 0", 0).due("paper 1 5", NONE).then("next");
        b.refused("back 0", "back 1");
        b.anew("thing 10 99", "slip 0 0 -1 0 1 4 0", "28 next").would("back 0", 1).then("next").refused("back 0");
    }

    private static void backOfApproval() {
        Bound b = new Bound(8, CAN_COME_BACK);
        b.anew("thing 10 99", "10 next", "slip 2 0 0 0 3 4 10").would("back 0", 1).then("6 next").would("back 0", 1);
        b.then("next").due("paper 0 0", 0).would("back 0", 1).then("28 next").due("look 0", 45).would("back 0", 1);
        b.then("next").refused("back 0").due("paper 0 0", 0).due("paper 0 5", NONE);
    }

    private static void backOfLate() {
        Bound b = new Bound(8, CAN_COME_BACK);
        b.anew("thing 10 99", "30 next", "slip 0 0 -1 0 1 -1 2", "slip 1 0 0 0 1 -1 3", "slip 2 0 0 0 1 -1 2");
        b.inside("back #", 0, 2, 1).would("back 1", 1).then("next").refused("back 0").inside("back #", 1, 2, 1);
        b.then("next").refused("back 1").then("5 next").due("look 0", 37).would("back 2", 1).then("next").refused("back 2");
    }

    private static void backToStock() {
        Bound b = new Bound(8, "BACK: its PIECES are STOCK again; the DAY is kept.");
        b.anew("thing 10 99", "slip 0 0 -1 0 99 -1 0", "next").due("of 0 1", 0).due("back 0", 1).due("of 0 1", 99);
        b.due("paper 0 5", 1).due("paper 0 2", 0).then("3 next").due("paper 0 5", 1).due("paper 0 0", 2);
        b.anew("thing 10 999", "thing 10 5", "slip 0 0 -1 0 99 -1 0", "count 0 999").due("back 0", 1).due("of 0 1", 1098);
        b.due("of 1 1", 5).anew("thing 10 999", "slip 2 0 0 0 99 -1 0", "count 0 9999").due("back 0", 1);
        b.due("of 0 1", 10098).due("paper 0 5", 0);
    }

    private static void backRefused() {
        Bound b = new Bound(8, "SLIP i comes BACK: true; false, and nothing is done: none such, it is, or it is too late.");
        b.refused("back 0").anew(Bound.STORE).outside("back #", 0, 4).would("back 0", 1).would("back 4", 1);
        b.refused("back 1").due("back 2", 1).refused("back 2").then("next").refused("back 1", "back 2");
        b.then("26 next").due("look 0", 30).would("back 0", 1).then("next").refused("back 0", "back 4", "back 5");
    }

    private static void look() {
        Bound b = new Bound(9, "What 0 DAY, 1 THINGS, 2 SLIPS, 3 those on APPROVAL, 4 PARCELS, 5 rounds today, "
            + "6 lines of THE RULE.");
        int[] due = {3, 2, 5, 2, 1, 1, 1};
        int[] later = {10, 2, 5, 0, 1, 0, 1};
        for (int what = 0; what <= 6; what++) {
            b.anew(Bound.STORE).due("look " + what, due[what]).then("6 next").due("look 3", 2);
            b.then("next").due("look " + what, later[what]);
        }
        b.anew("text " + "pay 1 when 1=1;".repeat(8), "rule").due("look 6", 8).then("van 0").due("look 5", 1);
        b.then("van 0").due("look 5", 2).then("van 0").due("look 5", 2).then("rule").due("look 6", 0);
        b = new Bound(9, "NONE for another what.");
        b.outside("look #", 0, 6).anew(Bound.STORE).outside("look #", 0, 6);
    }

    private static void parcels() {
        Bound b = new Bound(9, "PARCELS are SLIPS with a HOUSE that are neither out nor BACK.");
        b.anew("thing 10 99", "slip 0 0 -1 0 1 -1 0").due("look 4", 0).then("slip 0 0 -1 0 1 0 0").due("look 4", 1);
        b.then("slip 1 0 0 0 2 19 0").due("look 4", 2).then("slip 2 0 0 0 3 19 0").due("look 4", 3);
        b.then("van 1").due("look 4", 2).due("back 1", 1).due("look 4", 2).due("back 2", 1).due("look 4", 1);
        b.due("paper 2 6", NONE).due("paper 1 6", 0).then("8 next").due("look 4", 1).then("van 500").due("look 4", 0);
        b.due("paper 3 6", 16).due("paper 2 6", NONE).due("back 3", 1).due("look 4", 0).due("paper 3 6", 16);
    }
}
