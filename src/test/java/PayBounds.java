/** Promises 16 and 17: what clerks are paid and accounts are stated, at their bounds. */
final class PayBounds {
    private static final int NONE = -1;
    private static final int LOW = Integer.MIN_VALUE;
    private static final int HIGH = Integer.MAX_VALUE;
    private static final String MONTHS = "MONTH m has the DAYS 28 m .. 28 m + 27 (m 0 .. 12).";
    private static final String TAKINGS =
        "TAKINGS of a CLERK in a MONTH: sum: the WORTHS of their SLIPS that were SOLD on a DAY of it, less those that had "
        + "been SOLD and came BACK on a DAY of it; slips: how many were SOLD so; back: those WORTHS that came BACK so.";
    private static final String STATED =
        "A STATEMENT of an ACCOUNT for a MONTH by DAY k: the WORTHS of its SLIPS that were SOLD on a DAY of it, less those "
        + "that had been SOLD and came BACK on a DAY of it, by what was told up to the end of DAY k (a SLIP told LATE on a "
        + "later DAY, what was SOLD or came BACK on a later DAY do not count).";

    private PayBounds() {
    }

    static void all() {
        soldInMonths();
        backInMonths();
        takings();
        takingsOfApproval();
        takingsOfAll();
        wraps();
        towardsZero();
        firstLine();
        atTheBound();
        pay();
        payRefused();
        statedByDay();
        statedBack();
        statedLate();
        statedMonths();
        statementRefused();
    }

    /** One piece is sold on the first day of each month and two on its last. */
    private static void soldInMonths() {
        Bound b = new Bound(16, MONTHS);
        b.anew("thing 1 999");
        for (int month = 0; month <= 12; month++) {
            b.then("slip 1 0 0 0 1 -1 " + 28 * month, "27 next", "slip 1 0 0 0 2 -1 " + (28 * month + 27), "next");
        }
        b.due("look 0", 363);
        for (int month = 0; month <= 12; month++) {
            b.due("pay 0 " + month + " 0", 3).due("pay 0 " + month + " 1", 2).due("statement 0 " + month + " 363", 3);
        }
        b.outside("pay 0 # 0", 0, 12).outside("statement 0 # 363", 0, 12);
    }

    private static void backInMonths() {
        Bound b = new Bound(16, MONTHS);
        b.anew("thing 1 999", "26 next", "slip 1 0 0 0 5 -1 26", "slip 1 0 0 0 7 -1 26", "next", "back 0", "next", "back 1");
        b.due("pay 0 0 0", 7).due("pay 0 0 1", 2).due("pay 0 0 2", 5);
        b.due("pay 0 1 0", -7).due("pay 0 1 1", 0).due("pay 0 1 2", 7);
        b.due("statement 0 0 28", 7).due("statement 0 1 28", -7);
        b.anew("thing 1 999", "335 next", "2 slip 1 0 0 0 5 -1 335", "back 0", "28 next").due("back 1", 1);
        b.due("pay 0 11 0", 5).due("pay 0 11 2", 5).due("pay 0 12 0", -5).due("pay 0 12 2", 5).due("pay 0 12 1", 0);
    }

    private static void takings() {
        Bound b = new Bound(16, TAKINGS);
        b.anew("thing 10 99", "27 next", "slip 0 2 -1 0 1 -1 27", "slip 1 2 5 0 8 -1 27", "slip 1 3 5 0 16 -1 27");
        b.due("pay 2 0 0", 90).due("pay 2 0 1", 2).due("pay 2 0 2", 0).due("pay 3 0 0", 160).due("pay 4 0 0", 0);
        b.then("back 1").due("pay 2 0 0", 10).due("pay 2 0 1", 2).due("pay 2 0 2", 80).due("pay 3 0 2", 0);
        b.then("next", "back 0").due("pay 2 0 0", 10).due("pay 2 0 2", 80).due("pay 2 1 0", -10).due("pay 2 1 1", 0);
        b.due("pay 2 1 2", 10).then("slip 0 2 -1 0 1 -1 0").due("pay 2 0 0", 20).due("pay 2 0 1", 3).due("pay 2 1 0", -10);
    }

    private static void takingsOfApproval() {
        Bound b = new Bound(16, TAKINGS);
        b.anew("thing 10 99", "20 next", "2 slip 2 2 5 0 1 -1 20", "next", "2 slip 2 2 5 0 2 -1 21", "5 next");
        b.due("pay 2 0 0", 0).due("pay 2 0 1", 0).then("back 1").due("pay 2 0 0", 0).due("pay 2 0 2", 0);
        b.then("next").due("look 0", 27).due("pay 2 0 0", 10).due("pay 2 0 1", 1).due("pay 2 1 0", 0).due("pay 2 1 1", 0);
        b.then("back 3", "next").due("pay 2 0 0", 10).due("pay 2 1 0", 20).due("pay 2 1 1", 1).due("pay 2 1 2", 0);
        b.then("back 2").due("pay 2 1 0", 0).due("pay 2 1 1", 1).due("pay 2 1 2", 20).due("pay 2 0 2", 0);
    }

    private static void takingsOfAll() {
        Bound b = new Bound(16, TAKINGS);
        b.anew("thing 9999 999", "12 slip 1 7 9 0 80 -1 0", "count 0 9999", "108 slip 1 7 9 0 92 -1 0");
        b.due("look 2", 120).due("pay 7 0 1", 120).due("pay 7 0 0", 9999 * (12 * 80 + 108 * 92));
        b.due("statement 9 0 0", 9999 * (12 * 80 + 108 * 92)).then("back 0", "back 119").due("pay 7 0 2", 9999 * 172);
        b.due("pay 7 0 0", 9999 * (11 * 80 + 107 * 92)).due("pay 7 0 1", 120);
    }

    private static void wraps() {
        Bound b = new Bound(16, "Ints, which wrap; / goes towards 0.");
        String most = "65536*32767+65535";
        b.pays("pay " + most + " when 1=1;", 1, HIGH).pays("pay " + most + "+1 when 1=1;", 1, LOW);
        b.pays("pay 0-(" + most + ")-1 when 1=1;", 1, LOW).pays("pay 0-(" + most + ")-2 when 1=1;", 1, HIGH);
        b.pays("pay 46340*46340 when 1=1;", 1, 46340 * 46340).pays("pay 46341*46341 when 1=1;", 1, 46341 * 46341);
        b.pays("pay 65536*32768 when 1=1;", 1, LOW).pays("pay 65536*65536 when 1=1;", 1, 0);
        b.pays("pay 65536*65536+7 when 1=1;", 1, 7).pays("pay 999999*999999 when 1=1;", 1, 999999 * 999999);
        b.pays("pay 999999*999999*999999 when 1=1;", 1, 999999 * 999999 * 999999);
        b.pays("pay 0-65536*32768 when 1=1;", 1, LOW).pays("pay 9 when " + most + "+1<0;", 1, 9);
        b.pays("pay 9 when " + most + ">0;", 1, 9).pays("pay 9 when " + most + "+1<" + most + ";", 1, 9);
        b.pays("pay 9 when 65536*65536=0;", 1, 9).pays("pay 9 when 65536*32768=0-65536*32768;", 1, 9);
    }

    private static void towardsZero() {
        Bound b = new Bound(16, "Ints, which wrap; / goes towards 0.");
        for (int whole = -4; whole <= 4; whole++) {
            for (int part = 1; part <= 4; part++) {
                b.pays("pay (5-" + (5 - whole) + ")/" + part + " when 1=1;", 1, whole / part);
            }
        }
        b.pays("pay (65536*32768)/1 when 1=1;", 1, LOW).pays("pay 65536*32768/2 when 1=1;", 1, LOW / 2);
        b.pays("pay 65536*32768/999999 when 1=1;", 1, LOW / 999999).pays("pay 999998/999999 when 1=1;", 1, 0);
        b.pays("pay (0-999998)/999999 when 1=1;", 1, 0).pays("pay (0-999999)/999999 when 1=1;", 1, -1);
        b.pays("pay 0-7/2 when 1=1;", 1, -3).pays("pay (0-1)/2*2 when 1=1;", 1, 0);
    }

    private static void firstLine() {
        Bound b = new Bound(16, "PAY of a CLERK in a MONTH: E of the first line whose B is so; 0 without one.");
        b.due("pay 0 0 3", 0).due("pay 0 0 4", NONE).pays("pay 5 when 1=2;", 1, 0).due("pay 0 0 4", NONE);
        b.pays("pay 5 when 1=1;pay 6 when 1=1;", 2, 5).due("pay 0 0 4", 0);
        b.pays("pay 5 when 1=2;pay 6 when 1=1;pay 7 when 1=1;", 3, 6).due("pay 0 0 4", 1);
        StringBuilder eight = new StringBuilder();
        for (int line = 0; line < 8; line++) {
            eight.append("pay ").append(50 + line).append(" when month=").append(line).append(';');
        }
        b.pays(eight.toString(), 8, 50);
        for (int month = 0; month <= 12; month++) {
            b.due("pay 0 " + month + " 3", month < 8 ? 50 + month : 0).due("pay 0 " + month + " 4", month < 8 ? month : NONE);
        }
        b.pays("pay 0-1 when 1=1;", 1, -1).pays("pay 0-999999-2 when 1=1;", 1, -1000001);
    }

    private static void atTheBound() {
        Bound b = new Bound(16, "PAY of a CLERK in a MONTH: E of the first line whose B is so; 0 without one.");
        b.anew("thing 1 999", "text pay 1 when sum<50;pay 2 when sum=50;pay 3 when sum>50 and slips<4;", "rule");
        b.then("slip 0 0 -1 0 49 -1 0").due("pay 0 0 3", 1).due("pay 0 0 4", 0).then("slip 0 0 -1 0 1 -1 0");
        b.due("pay 0 0 3", 2).due("pay 0 0 4", 1).then("slip 0 0 -1 0 1 -1 0").due("pay 0 0 3", 3).due("pay 0 0 4", 2);
        b.then("slip 0 0 -1 0 1 -1 0").due("pay 0 0 3", 0).due("pay 0 0 4", NONE).then("back 0").due("pay 0 0 3", 1);
        b.due("pay 1 0 3", 1).due("pay 0 1 3", 1);
    }

    private static void pay() {
        Bound b = new Bound(16, "Of a CLERK in a MONTH what 0 sum, 1 slips, 2 back, 3 PAY, "
            + "4 the line by which it is paid (NONE).");
        b.anew(Bound.STORE).due("pay 1 0 0", 56).due("pay 1 0 1", 2).due("pay 1 0 2", 0).due("pay 1 0 3", 5);
        b.due("pay 1 0 4", 0).due("pay 2 0 0", 0).due("pay 2 0 1", 1).due("pay 2 0 2", 24).due("pay 2 0 3", 0);
        b.due("pay 2 0 4", 0).due("pay 3 0 1", 0).due("pay 3 0 3", 0).due("pay 3 0 4", NONE).due("pay 1 1 4", NONE);
    }

    private static void payRefused() {
        Bound b = new Bound(16, "NONE - 1000000 if one can't be.");
        b.outside("pay # 0 0", 0, 7).anew(Bound.STORE).then("slip 1 0 0 0 1 -1 3", "slip 1 7 0 0 1 -1 3");
        b.outside("pay # 0 3", 0, 7).inside("pay # 0 0", 0, 7, 12).outside("pay 1 # 0", 0, 12).outside("pay 1 # 4", 0, 12);
        b.due("pay 1 0 0", 56).due("pay 1 12 0", 0).outside("pay 1 0 #", 0, 4).due("pay 1 0 4", 0);
        b.refused("pay 8 13 5", "pay -1 -1 -1");
    }

    private static void statedByDay() {
        Bound b = new Bound(17, STATED);
        b.anew("thing 10 99", "5 next", "slip 1 0 3 0 1 -1 5", "slip 2 0 3 0 2 -1 5", "slip 0 0 -1 0 4 -1 5");
        b.then("slip 1 0 4 0 8 -1 5").due("statement 3 0 4", 0).due("statement 3 0 5", 10).then("20 next");
        b.due("statement 3 0 0", 0).due("statement 3 0 4", 0).due("statement 3 0 5", 10).due("statement 3 0 11", 10);
        b.due("statement 3 0 12", 30).due("statement 3 0 13", 30).due("statement 3 0 25", 30);
        b.due("statement 4 0 4", 0).due("statement 4 0 5", 80).due("statement 4 0 25", 80).due("statement 5 0 25", 0);
        b.anew("thing 10 99", "slip 1 0 3 0 1 -1 0").due("statement 3 0 0", 10);
    }

    private static void statedBack() {
        Bound b = new Bound(17, STATED);
        b.anew("thing 10 99", "slip 1 0 3 0 1 -1 0", "slip 2 0 3 0 2 -1 0", "slip 2 0 3 0 4 -1 0", "6 next", "back 1");
        b.then("next", "back 2", "2 next", "back 0", "3 next");
        int[] byDay = {10, 10, 10, 10, 10, 10, 10, 10, 10, 0, 0, 0, 0};
        for (int k = 0; k <= 12; k++) {
            b.due("statement 3 0 " + k, byDay[k]).due("statement 3 1 " + k, 0);
        }
        b.anew("thing 10 99", "slip 2 0 3 0 1 -1 0", "8 next", "back 0").due("statement 3 0 6", 0);
        b.due("statement 3 0 7", 10).due("statement 3 0 8", 0);
        b.anew("thing 10 99", "27 next", "slip 1 0 3 0 1 -1 27", "next", "back 0").due("statement 3 0 27", 10);
        b.due("statement 3 0 28", 10).due("statement 3 1 27", 0).due("statement 3 1 28", -10);
    }

    private static void statedLate() {
        Bound b = new Bound(17, STATED);
        b.anew("thing 10 99", "29 next", "slip 1 0 3 0 1 -1 1", "slip 2 0 3 0 2 -1 2", "slip 2 0 3 0 4 -1 22");
        b.then("slip 2 0 3 0 8 -1 23").due("statement 3 0 28", 0).due("statement 3 1 28", 0).due("statement 3 0 29", 30);
        b.due("statement 3 1 29", 40).then("next").due("statement 3 1 29", 40).due("statement 3 1 30", 120);
        b.due("statement 3 0 28", 0).due("statement 3 0 29", 30).due("statement 3 0 30", 30);
        b.anew("thing 10 99", "9 next", "slip 1 0 3 0 1 -1 4", "back 0", "next").due("statement 3 0 8", 0);
        b.due("statement 3 0 9", 0).due("statement 3 0 10", 0).due("pay 0 0 1", 1);
    }

    private static void statedMonths() {
        Bound b = new Bound(17, MONTHS);
        b.anew("thing 10 99", "20 next", "slip 2 0 3 0 1 -1 20", "next", "slip 2 0 3 0 2 -1 21", "6 next");
        b.due("statement 3 0 27", 10).due("statement 3 1 27", 0).then("next").due("statement 3 0 28", 10);
        b.due("statement 3 1 27", 0).due("statement 3 1 28", 20).due("statement 3 12 28", 0).due("statement 3 2 28", 0);
    }

    private static void statementRefused() {
        Bound b = new Bound(17, "A STATEMENT; NONE - 1000000 if one can't be (DAY k up to now).");
        b.outside("statement 0 0 #", 0, 0).would("statement 0 0 0", 0).anew(Bound.STORE);
        b.outside("statement 4 0 #", 0, 3).due("statement 4 0 0", 0).due("statement 4 0 2", 0).due("statement 4 0 3", 20);
        b.outside("statement # 0 3", 0, 9).inside("statement # 0 3", 0, 9, 0);
        b.outside("statement 4 # 3", 0, 12).due("statement 4 12 3", 0).then("next").outside("statement 4 0 #", 0, 4);
        b.due("statement 4 0 4", 20).refused("statement 10 13 5", "statement -1 -1 -1");
    }
}
