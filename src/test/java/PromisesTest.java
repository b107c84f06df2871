/** Each promise by its number: ordinary inputs, the edges that the document names, wrong inputs. */
public final class PromisesTest {
    private static final int NONE = -1;
    private static final int CANNOT = -1000001;
    private static final int LOW = Integer.MIN_VALUE;
    private static final int HIGH = Integer.MAX_VALUE;

    private PromisesTest() {
    }

    public static void main(String[] args) {
        newObject();
        thing();
        tag();
        of();
        next();
        slip();
        slipRefused();
        paper();
        paperOnApproval();
        back();
        look();
        van();
        vanOrder();
        house();
        feed();
        end();
        rule();
        faultsOfPlace();
        faultsOfZeroAndRoom();
        fault();
        pay();
        payByTheRule();
        payWraps();
        statement();
        count();
        level();
        best();
        Check.finish();
    }

    private static void newObject() {
        GreatStore x = new GreatStore();
        Check.due("1 NONE", GreatStore.NONE, -1);
        for (int what = 0; what <= 6; what++) {
            Check.due("1 look " + what, x.look(what), 0);
        }
        Check.due("1 of", x.of(0, 0), NONE);
        Check.due("1 paper", x.paper(0, 0), NONE);
        Check.due("1 house", x.house(0), NONE);
        Check.due("1 fault", x.fault(0), 0);
        Check.due("1 place", x.fault(1), NONE);
        Check.due("1 pay", x.pay(0, 0, 3), 0);
        Check.due("1 line", x.pay(0, 0, 4), NONE);
        Check.due("1 statement", x.statement(0, 0, 0), 0);
        Check.due("1 end 1", x.end(1), false);
        Check.due("1 best", x.best(200, 8, 0, 0), 0);
        Check.due("1 left", x.best(200, 8, 0, 1), 200);
        GreatStore other = new GreatStore();
        x.thing(5, 5);
        Check.due("1 another object", other.look(1), 0);
    }

    private static void thing() {
        GreatStore x = new GreatStore();
        int[][] wrong = {{0, 1}, {-1, 1}, {10000, 1}, {LOW, 1}, {HIGH, 1}, {1, -1}, {1, 1000}, {1, LOW}, {1, HIGH}};
        for (int[] w : wrong) {
            Check.due("2 thing " + w[0] + " " + w[1], x.thing(w[0], w[1]), NONE);
        }
        Check.due("2 nothing done", x.look(1), 0);
        Check.due("2 least", x.thing(1, 0), 0);
        Check.due("2 greatest", x.thing(9999, 999), 1);
        for (int t = 2; t < 12; t++) {
            Check.due("2 thing " + t, x.thing(t, t), t);
        }
        Check.due("2 the 13th", x.thing(5, 5), NONE);
        Check.due("2 twelve", x.look(1), 12);
        Check.due("2 stock least", x.of(0, 1), 0);
        Check.due("2 tag", x.of(1, 0), 9999);
        Check.due("2 stock", x.of(1, 1), 999);
        Check.due("2 tag of the last", x.of(11, 0), 11);
    }

    private static void tag() {
        GreatStore x = new GreatStore();
        x.thing(100, 10);
        Check.due("3 cut", x.tag(0, 99), 1);
        Check.due("3 raised", x.tag(0, 101), 2);
        Check.due("3 as it was", x.tag(0, 101), 0);
        int[][] wrong = {{0, 0}, {0, 10000}, {0, LOW}, {0, HIGH}, {1, 5}, {-1, 5}, {LOW, 5}, {HIGH, 5}};
        for (int[] w : wrong) {
            Check.due("3 tag " + w[0] + " " + w[1], x.tag(w[0], w[1]), NONE);
        }
        Check.due("3 nothing done", x.of(0, 0), 101);
        Check.due("3 raised once", x.of(0, 2), 1);
        Check.days(x, 2);
        Check.due("3 kept", x.of(0, 0), 101);
        Check.due("3 to the least", x.tag(0, 1), 1);
        Check.due("3 to the greatest", x.tag(0, 9999), 2);
        Check.due("3 raised twice", x.of(0, 2), 2);
        Check.due("3 a day ahead", x.of(0, 1001), 101);
        Check.due("3 from now on", x.of(0, 1002), 9999);
        x.next();
        Check.due("3 on the next", x.of(0, 1003), 9999);
    }

    private static void of() {
        GreatStore x = new GreatStore();
        x.next();
        x.next();
        x.thing(40, 7);
        x.next();
        x.thing(50, 8);
        x.tag(0, 30);
        Check.due("4 tag", x.of(0, 0), 30);
        Check.due("4 stock", x.of(0, 1), 7);
        Check.due("4 raised", x.of(0, 2), 0);
        Check.due("4 lost", x.of(0, 3), 0);
        int[] tags = {0, 0, 40, 30};
        for (int day = 0; day < 4; day++) {
            Check.due("4 tag of day " + day, x.of(0, 1000 + day), tags[day]);
        }
        Check.due("4 ahead of its coming", x.of(1, 1002), 0);
        Check.due("4 of its coming", x.of(1, 1003), 50);
        for (int what : new int[] {-1, 4, 5, 999, 1004, 1363, 1364, LOW, HIGH, LOW + 1000}) {
            Check.due("4 what " + what, x.of(0, what), NONE);
        }
        for (int t : new int[] {-1, 2, 12, LOW, HIGH}) {
            Check.due("4 thing " + t, x.of(t, 0), NONE);
        }
    }

    private static void next() {
        GreatStore x = new GreatStore();
        x.thing(3, 9);
        for (int day = 1; day <= 363; day++) {
            Check.due("5 next", x.next(), day);
        }
        x.van(0);
        x.van(0);
        Check.due("5 behind the last", x.next(), NONE);
        Check.due("5 nothing done", x.look(0), 363);
        Check.due("5 rounds stay", x.look(5), 2);
        Check.due("5 tag of the last day", x.of(0, 1363), 3);
        Check.due("5 no day behind", x.of(0, 1364), NONE);
        Check.due("5 approval on the last day", x.slip(2, 0, 0, 0, 1, -1, 363), 0);
        Check.due("5 its state", x.paper(0, 0), 1);
        Check.due("5 sold on the last day", x.slip(2, 0, 0, 0, 1, -1, 356), 1);
        Check.due("5 its day sold", x.paper(1, 4), 363);
        Check.due("5 the last month", x.pay(0, 12, 0), 3);
    }

    private static void slip() {
        GreatStore x = new GreatStore();
        x.thing(10, 200);
        Check.due("6 cash", x.slip(0, 0, -1, 0, 1, -1, 0), 0);
        Check.due("6 charge", x.slip(1, 7, 9, 0, 99, 19, 0), 1);
        Check.due("6 approval", x.slip(2, 3, 0, 0, 5, 0, 0), 2);
        Check.due("6 stock", x.of(0, 1), 95);
        Check.due("6 more than stock", x.slip(0, 0, -1, 0, 96, -1, 0), NONE);
        Check.due("6 all of the stock", x.slip(0, 0, -1, 0, 95, -1, 0), 3);
        Check.due("6 none left", x.slip(0, 0, -1, 0, 1, -1, 0), NONE);
        Check.due("6 stock is 0", x.of(0, 1), 0);
        GreatStore y = new GreatStore();
        y.thing(2, 999);
        Check.days(y, 30);
        y.thing(3, 999);
        Check.due("6 28 ahead", y.slip(0, 0, -1, 0, 1, -1, 2), 0);
        Check.due("6 29 ahead", y.slip(0, 0, -1, 0, 1, -1, 1), NONE);
        Check.due("6 on its coming", y.slip(0, 0, -1, 1, 1, -1, 30), 1);
        Check.due("6 it came later", y.slip(0, 0, -1, 1, 1, -1, 29), NONE);
        Check.due("6 a day behind", y.slip(0, 0, -1, 0, 1, -1, 31), NONE);
        for (int i = 2; i < 120; i++) {
            Check.due("6 slip " + i, y.slip(0, 0, -1, 0, 1, -1, 30), i);
        }
        Check.due("6 the 121st", y.slip(0, 0, -1, 0, 1, -1, 30), NONE);
        Check.due("6 120", y.look(2), 120);
        Check.due("6 stock stays", y.of(0, 1), 999 - 119);
    }

    private static void slipRefused() {
        GreatStore x = new GreatStore();
        x.thing(10, 500);
        int[][] wrong = {
            {-1, 0, 0, 0, 1, -1, 0}, {3, 0, 0, 0, 1, -1, 0}, {LOW, 0, 0, 0, 1, -1, 0}, {HIGH, 0, 0, 0, 1, -1, 0},
            {1, -1, 0, 0, 1, -1, 0}, {1, 8, 0, 0, 1, -1, 0}, {1, LOW, 0, 0, 1, -1, 0}, {1, HIGH, 0, 0, 1, -1, 0},
            {0, 0, 0, 0, 1, -1, 0}, {0, 0, 9, 0, 1, -1, 0}, {0, 0, -2, 0, 1, -1, 0}, {0, 0, 10, 0, 1, -1, 0},
            {1, 0, -1, 0, 1, -1, 0}, {1, 0, 10, 0, 1, -1, 0}, {2, 0, -1, 0, 1, -1, 0}, {2, 0, 10, 0, 1, -1, 0},
            {3, 0, -1, 0, 1, -1, 0}, {-1, 0, -1, 0, 1, -1, 0},
            {1, 0, 0, -1, 1, -1, 0}, {1, 0, 0, 1, 1, -1, 0}, {1, 0, 0, LOW, 1, -1, 0}, {1, 0, 0, HIGH, 1, -1, 0},
            {1, 0, 0, 0, 0, -1, 0}, {1, 0, 0, 0, 100, -1, 0}, {1, 0, 0, 0, -1, -1, 0}, {1, 0, 0, 0, LOW, -1, 0},
            {1, 0, 0, 0, 1, -2, 0}, {1, 0, 0, 0, 1, 20, 0}, {1, 0, 0, 0, 1, LOW, 0}, {1, 0, 0, 0, 1, HIGH, 0},
            {1, 0, 0, 0, 1, -1, -1}, {1, 0, 0, 0, 1, -1, 1}, {1, 0, 0, 0, 1, -1, LOW}, {1, 0, 0, 0, 1, -1, HIGH},
        };
        for (int[] w : wrong) {
            Check.due("6 slip " + java.util.Arrays.toString(w), x.slip(w[0], w[1], w[2], w[3], w[4], w[5], w[6]), NONE);
        }
        Check.due("6 none came", x.look(2), 0);
        Check.due("6 none left", x.of(0, 1), 500);
    }

    private static void paper() {
        GreatStore x = new GreatStore();
        x.thing(10, 500);
        x.next();
        x.tag(0, 20);
        x.slip(0, 0, -1, 0, 3, -1, 1);
        x.tag(0, 25);
        x.next();
        x.tag(0, 30);
        x.slip(1, 0, 4, 0, 2, 5, 1);
        x.slip(1, 0, 4, 0, 2, 5, 0);
        x.van(500);
        x.next();
        x.back(1);
        int[][] due = {{0, 60, 1, 1, 1, -1, -1}, {2, 50, 1, 2, 1, 3, 4}, {0, 20, 0, 2, 0, -1, 4}};
        for (int i = 0; i < 3; i++) {
            for (int what = 0; what < 7; what++) {
                Check.due("7 paper " + i + " " + what, x.paper(i, what), due[i][what]);
            }
        }
        for (int what : new int[] {-1, 7, 8, LOW, HIGH}) {
            Check.due("7 what " + what, x.paper(0, what), NONE);
        }
        for (int i : new int[] {-1, 3, 120, LOW, HIGH}) {
            Check.due("7 slip " + i, x.paper(i, 0), NONE);
        }
    }

    private static void paperOnApproval() {
        GreatStore x = new GreatStore();
        x.thing(10, 500);
        Check.days(x, 10);
        x.slip(2, 0, 1, 0, 1, -1, 10);
        x.slip(2, 0, 1, 0, 1, -1, 3);
        x.slip(2, 0, 1, 0, 1, -1, 2);
        x.slip(2, 0, 1, 0, 1, -1, 4);
        x.slip(2, 0, 1, 0, 1, -1, 10);
        int[] states = {1, 0, 0, 1, 1};
        int[] soldDays = {NONE, 10, 9, NONE, NONE};
        for (int i = 0; i < 5; i++) {
            Check.due("7 state of " + i, x.paper(i, 0), states[i]);
            Check.due("7 sold of " + i, x.paper(i, 4), soldDays[i]);
        }
        x.next();
        Check.due("7 sold as the day begins", x.paper(3, 4), 11);
        Check.days(x, 5);
        Check.due("7 day 16: on approval", x.paper(0, 0), 1);
        x.back(4);
        x.next();
        Check.due("7 day 17: sold", x.paper(0, 0), 0);
        Check.due("7 its day sold", x.paper(0, 4), 17);
        Check.due("7 back, never sold", x.paper(4, 4), NONE);
        Check.due("7 state back", x.paper(4, 0), 2);
        Check.due("7 day back", x.paper(4, 5), 16);
    }

    private static void back() {
        GreatStore x = new GreatStore();
        x.thing(10, 500);
        x.slip(0, 0, -1, 0, 4, 3, 0);
        x.slip(1, 0, 1, 0, 5, -1, 0);
        x.slip(2, 0, 1, 0, 6, -1, 0);
        x.slip(2, 0, 1, 0, 7, -1, 0);
        x.slip(2, 0, 1, 0, 8, -1, 0);
        Check.due("8 on approval", x.back(4), true);
        Check.due("8 stock", x.of(0, 1), 500 - 22);
        Check.due("8 it is", x.back(4), false);
        Check.due("8 stock stays", x.of(0, 1), 500 - 22);
        for (int i : new int[] {-1, 5, LOW, HIGH}) {
            Check.due("8 slip " + i, x.back(i), false);
        }
        Check.days(x, 28);
        Check.due("8 cash, 28 days", x.back(0), true);
        Check.due("8 no parcel any more", x.look(4), 0);
        x.next();
        Check.due("8 charge, 29 days", x.back(1), false);
        Check.due("8 it is sold", x.paper(1, 0), 0);
        Check.due("8 no day back", x.paper(1, 5), NONE);
        Check.days(x, 6);
        Check.due("8 approval, 28 days", x.back(2), true);
        x.next();
        Check.due("8 approval, 29 days", x.back(3), false);
        Check.due("8 day back", x.paper(2, 5), 35);
        Check.due("8 stock at last", x.of(0, 1), 500 - 12);
        x.slip(0, 0, -1, 0, 1, -1, 8);
        Check.due("8 told late, on the last day", x.back(5), true);
        x.slip(0, 0, -1, 0, 1, -1, 8);
        x.next();
        Check.due("8 told late, too late", x.back(6), false);
    }

    private static void look() {
        GreatStore x = new GreatStore();
        x.thing(10, 500);
        x.thing(20, 500);
        x.slip(2, 0, 1, 0, 1, 4, 0);
        x.slip(2, 0, 1, 0, 1, -1, 0);
        x.slip(0, 0, -1, 0, 1, 4, 0);
        x.slip(1, 0, 1, 0, 1, 5, 0);
        x.slip(2, 0, 1, 0, 1, 5, 0);
        x.back(4);
        Check.type(x, "pay 1 when 1=1;");
        x.rule();
        x.van(0);
        int[] due = {0, 2, 5, 2, 3, 1, 1};
        for (int what = 0; what < 7; what++) {
            Check.due("9 look " + what, x.look(what), due[what]);
        }
        x.van(2);
        Check.due("9 parcels left", x.look(4), 1);
        Check.due("9 two rounds", x.look(5), 2);
        Check.days(x, 7);
        int[] later = {7, 2, 5, 0, 1, 0, 1};
        for (int what = 0; what < 7; what++) {
            Check.due("9 later look " + what, x.look(what), later[what]);
        }
        for (int what : new int[] {-1, 7, LOW, HIGH}) {
            Check.due("9 what " + what, x.look(what), NONE);
        }
    }

    private static void van() {
        GreatStore x = new GreatStore();
        x.thing(10, 999);
        for (int room : new int[] {-1, 501, LOW, HIGH}) {
            Check.due("10 room " + room, x.van(room), NONE);
        }
        Check.due("10 nothing done", x.look(5), 0);
        x.slip(0, 0, -1, 0, 4, 3, 0);
        x.slip(2, 0, 1, 0, 5, 3, 0);
        x.slip(0, 0, -1, 0, 4, -1, 0);
        Check.due("10 one piece short", x.van(8), 0);
        Check.due("10 none out", x.paper(0, 6), NONE);
        Check.due("10 just room", x.van(9), 9);
        Check.due("10 the round", x.paper(0, 6), 1);
        Check.due("10 the round of the other", x.paper(1, 6), 1);
        Check.due("10 without a house", x.paper(2, 6), NONE);
        Check.due("10 two went", x.van(9), NONE);
        Check.due("10 still two", x.look(5), 2);
        x.next();
        Check.due("10 none are left", x.van(500), 0);
        x.slip(0, 0, -1, 0, 1, 3, 0);
        Check.due("10 the house again", x.van(500), 1);
        Check.due("10 round of day 1", x.paper(3, 6), 3);
        x.back(3);
        Check.due("10 back keeps its round", x.paper(3, 6), 3);
        x.next();
        x.slip(0, 0, -1, 0, 1, 3, 2);
        x.slip(0, 0, -1, 0, 2, 3, 2);
        x.back(4);
        Check.due("10 what is back stays", x.van(0), 0);
        Check.due("10 only the other", x.van(500), 2);
        Check.due("10 back is not out", x.paper(4, 6), NONE);
    }

    private static void vanOrder() {
        GreatStore x = new GreatStore();
        x.thing(10, 999);
        x.slip(0, 0, -1, 0, 1, 9, 0);
        x.slip(0, 0, -1, 0, 60, 2, 0);
        x.slip(0, 0, -1, 0, 3, 19, 0);
        x.slip(0, 0, -1, 0, 1, 0, 0);
        x.slip(0, 0, -1, 0, 2, 9, 0);
        x.slip(0, 0, -1, 0, 1, 2, 0);
        x.back(0);
        Check.due("10 past the house without room", x.van(10), 6);
        Check.due("11 by the least parcel", x.house(0), 19);
        Check.due("11 then", x.house(1), 0);
        Check.due("11 what is back does not count", x.house(2), 9);
        Check.due("11 no more", x.house(3), NONE);
        Check.due("10 all or none", x.look(4), 2);
        Check.due("10 with room", x.van(61), 61);
        Check.due("11 that house", x.house(0), 2);
        Check.due("11 it alone", x.house(1), NONE);
    }

    private static void house() {
        GreatStore x = new GreatStore();
        x.thing(10, 999);
        for (int h = 19; h >= 0; h--) {
            x.slip(0, 0, -1, 0, 1, h, 0);
        }
        Check.due("11 all houses", x.van(20), 20);
        for (int i = 0; i < 20; i++) {
            Check.due("11 house " + i, x.house(i), 19 - i);
        }
        for (int i : new int[] {-1, 20, 21, LOW, HIGH}) {
            Check.due("11 house " + i, x.house(i), NONE);
        }
        x.next();
        Check.due("11 the latest round of a day ahead", x.house(19), 0);
        x.van(501);
        Check.due("11 no round was", x.house(0), 19);
        x.van(0);
        Check.due("11 an empty round", x.house(0), NONE);
    }

    private static void feed() {
        GreatStore x = new GreatStore();
        for (int n = 20; n <= 400; n += 20) {
            Check.due("12 feed", x.feed(0x20202020, 0x20202020, 0x20202020, 0x20202020, 0x20202020), n);
        }
        Check.due("12 more than 400", x.feed(0, 0, 0, 0, 0), NONE);
        Check.due("12 nothing came", x.end(401), false);
        x.end(381);
        Check.due("12 401", x.feed(0, 0, 0, 0, 0), NONE);
        x.end(380);
        Check.due("12 400", x.feed(0x20202020, 0x20202020, 0x20202020, 0x20202020, 0x202020FF), 400);
        Check.due("12 the last byte is wrong", x.rule(), NONE);
        Check.due("12 its place", x.fault(1), 399);
        // "pay 1 when 2=2    ;" with each number's highest byte first
        x.feed(0x70617920, 0x31207768, 0x656e2032, 0x3d322020, 0x20203b20);
        Check.due("12 the order of bytes", x.rule(), 1);
        Check.due("12 its pay", x.pay(0, 0, 3), 1);
        Check.due("12 empty then", x.feed(0, 0, 0, 0, 0), 20);
    }

    private static void end() {
        GreatStore x = new GreatStore();
        Check.due("13 none of none", x.end(0), true);
        Check.due("13 one of none", x.end(1), false);
        x.feed(0x20202020, 0x20202020, 0x20202020, 0x20202020, 0x20202020);
        Check.due("13 all", x.end(20), true);
        Check.due("13 one more", x.end(21), false);
        Check.due("13 below 0", x.end(-1), false);
        Check.due("13 least", x.end(LOW), false);
        Check.due("13 greatest", x.end(HIGH), false);
        Check.due("13 unchanged", x.feed(0, 0, 0, 0, 0), 40);
        Check.due("13 fewer", x.end(7), true);
        Check.due("13 so many", x.feed(0x20202020, 0x20202020, 0x20202020, 0x20202020, 0x20202020), 27);
        Check.due("13 the zeroes are gone", x.rule(), 0);
    }

    private static int ruleOf(GreatStore x, String text) {
        Check.type(x, text);
        return x.rule();
    }

    private static void rule() {
        GreatStore x = new GreatStore();
        Check.due("14 empty", x.rule(), 0);
        Check.due("14 blanks", ruleOf(x, " \n \n"), 0);
        Check.due("14 one line", ruleOf(x, "pay 7 when 1 = 1;"), 1);
        Check.due("14 its pay", x.pay(0, 0, 3), 7);
        Check.due("14 no blanks", ruleOf(x, "pay8when1=1and2>1;pay9when1=1;"), 2);
        Check.due("14 its pay", x.pay(0, 0, 3), 8);
        Check.due("14 a fault", ruleOf(x, "pay 9 when 1 = 1; pay"), NONE);
        Check.due("14 it stays", x.look(6), 2);
        Check.due("14 its pay stays", x.pay(0, 0, 3), 8);
        Check.due("14 the tape is empty", x.end(1), false);
        Check.due("14 lines wrapped", ruleOf(x, "\npay\n1\nwhen\n1\n=\n1\n;\n"), 1);
        StringBuilder eight = new StringBuilder();
        for (int i = 0; i < 8; i++) {
            eight.append("pay ").append(i).append(" when month=").append(i).append(";");
        }
        Check.due("14 eight lines", ruleOf(x, eight.toString()), 8);
        for (int month = 0; month < 13; month++) {
            Check.due("14 line of month " + month, x.pay(0, month, 4), month < 8 ? month : NONE);
            Check.due("14 pay of month " + month, x.pay(0, month, 3), month < 8 ? month : 0);
        }
        Check.due("14 nine open", ruleOf(x, "pay ((((((((3)))))))) when ((1))=(((((((((1)))))))));"), NONE);
        Check.due("14 at the ninth", x.fault(1), 41);
        Check.due("14 eight open", ruleOf(x, "pay ((((((((3))))))))+((((((((4)))))))) when 1=((((((((1))))))));"), 1);
        Check.due("14 their pay", x.pay(0, 0, 3), 7);
        Check.due("14 to none again", ruleOf(x, ""), 0);
        Check.due("14 no pay", x.pay(0, 0, 3), 0);
    }

    private static void faulty(String text, int fault, int place) {
        GreatStore x = new GreatStore();
        Check.due("15 rule of " + text, ruleOf(x, text), NONE);
        Check.due("15 fault of " + text, x.fault(0), fault);
        Check.due("15 place in " + text, x.fault(1), place);
        Check.due("15 no lines of " + text, x.look(6), 0);
    }

    private static void faultsOfPlace() {
        faulty("p", 1, 0);
        faulty(" payx 1 when 1=1;", 1, 1);
        faulty("payX 1 when 1=1;", 1, 0);
        faulty("PAY 1 when 1=1;", 1, 0);
        for (char letter : new char[] {'a', 'm', 'z', 'A', 'M', 'Z'}) {
            faulty(" pay" + letter + " 1 when 1=1;", 1, 1);
        }
        for (char other : new char[] {'@', '[', '`', '{', '_', '\'', '\u007f', '\u0080', '\u00e1'}) {
            faulty(" pay" + other + " 1 when 1=1;", 1, 4);
        }
        for (char other : new char[] {',', '.', ':', '?', '!'}) {
            faulty("pay 1" + other + "2 when 1=1;", 1, 5);
        }
        faulty("pay_1 when 1=1;", 1, 3);
        faulty(";".repeat(400), 1, 0);
        faulty(" ".repeat(399) + ";", 1, 399);
        faulty(" ".repeat(397) + "pay", 1, 400);
        faulty("pay", 1, 3);
        faulty("pay   ", 1, 6);
        faulty("pay 1234567 when 1=1;", 1, 4);
        faulty("pay 1 2 when 1=1;", 1, 6);
        faulty("pay -1 when 1=1;", 1, 4);
        faulty("pay 1 + when 1=1;", 1, 8);
        faulty("pay 1 ) when 1=1;", 1, 6);
        faulty("pay () when 1=1;", 1, 5);
        faulty("pay (1 when 1=1;", 1, 7);
        faulty("pay 1 when 1;", 1, 12);
        faulty("pay 1 when 1=1", 1, 14);
        faulty("pay 1 when 1=1 \n", 1, 16);
        faulty("pay 1 when 1=2=3;", 1, 14);
        faulty("pay 1 when (1=1);", 1, 13);
        faulty("pay 1 when 1=1 and;", 1, 18);
        faulty("pay 1 when 1=1 and 2;", 1, 20);
        faulty("pay 1 when 1=1;;", 1, 15);
        faulty("pay 1 when 1=1; when", 1, 16);
        faulty("pay 1;", 1, 5);
        faulty("pay 1 = 1 when 1=1;", 1, 6);
        faulty("pay 1 and 1 when 1=1;", 1, 6);
        faulty("pay 1/sum when 1=1;", 1, 6);
        faulty("pay 1/(2) when 1=1;", 1, 6);
        faulty("pay 1\twhen 1=1;", 1, 5);
        faulty("pay 1\rwhen 1=1;", 1, 5);
        faulty("pay 1.when 1=1;", 1, 5);
        faulty("pay 1 when 1=1\u00e9;", 1, 14);
        faulty("pay\u00ff 1 when 1=1;", 1, 3);
        faulty("\u0000pay 1 when 1=1;", 1, 0);
        faulty("pay pay 1 when 1=1;", 1, 4);
        faulty("pay sum slips when 1=1;", 1, 8);
        faulty("pay sumslips when 1=1;", 1, 4);
    }

    private static void faultsOfZeroAndRoom() {
        faulty("pay 1/0 when 1=1;", 2, 6);
        faulty("pay 1/ 000000 x", 2, 7);
        faulty("pay 1/0000000 when 1=1;", 1, 6);
        faulty("pay 1/2/0 when 1=1;", 2, 8);
        faulty("pay 1 when (1*2/00)=1;", 2, 16);
        faulty("pay x/0 when 1=1;", 1, 4);
        faulty("pay (((((((((1", 3, 12);
        faulty("pay ((((((((1/(", 1, 14);
        faulty("pay ((((((((1 (", 1, 14);
        faulty("pay ((((((((1)))))))) when 1=1+(((((((((1", 3, 39);
        faulty("pay (1)+((((((((2*((1", 3, 18);
        String line = "pay 1 when 1=1;";
        faulty(line.repeat(8) + "pay", 3, 120);
        faulty(line.repeat(8) + " pay 1 when 1=1;", 3, 121);
        faulty(line.repeat(8) + "when", 1, 120);
        faulty(line.repeat(7) + "pay 1 when 1=1" + "pay", 1, 119);
        GreatStore x = new GreatStore();
        Check.due("15 eight lines and blanks", ruleOf(x, line.repeat(8) + " \n"), 8);
        StringBuilder longest = new StringBuilder("pay 1");
        while (longest.length() < 390) {
            longest.append("+1");
        }
        int ones = (longest.length() - 3) / 2;
        longest.append("when 1=1;");
        Check.due("15 the longest text", longest.length(), 400);
        Check.due("15 its line", ruleOf(x, longest.toString()), 1);
        Check.due("15 its pay", x.pay(0, 0, 3), ones);
    }

    private static void fault() {
        GreatStore x = new GreatStore();
        ruleOf(x, "pay 1/0");
        Check.due("15 fault", x.fault(0), 2);
        Check.due("15 place", x.fault(1), 6);
        for (int what : new int[] {-1, 2, 3, LOW, HIGH}) {
            Check.due("15 what " + what, x.fault(what), NONE);
        }
        ruleOf(x, "pay 1 when 1=1;");
        Check.due("15 none now", x.fault(0), 0);
        Check.due("15 no place now", x.fault(1), NONE);
    }

    private static void pay() {
        GreatStore x = new GreatStore();
        x.thing(10, 999);
        Check.days(x, 27);
        x.slip(0, 2, -1, 0, 1, -1, 27);
        x.slip(2, 2, 5, 0, 2, -1, 21);
        x.slip(2, 2, 5, 0, 4, -1, 20);
        x.slip(1, 2, 5, 0, 8, -1, 27);
        x.slip(1, 3, 5, 0, 16, -1, 27);
        x.slip(2, 2, 5, 0, 32, -1, 27);
        x.back(5);
        x.back(3);
        int[] first = {50, 3, 80};
        for (int what = 0; what < 3; what++) {
            Check.due("16 month 0 what " + what, x.pay(2, 0, what), first[what]);
        }
        x.next();
        Check.due("16 the approval's month", x.pay(2, 1, 0), 20);
        Check.due("16 one slip of it", x.pay(2, 1, 1), 1);
        x.back(0);
        x.back(1);
        int[] second = {-10, 1, 30};
        for (int what = 0; what < 3; what++) {
            Check.due("16 month 1 what " + what, x.pay(2, 1, what), second[what]);
            Check.due("16 month 0 stays " + what, x.pay(2, 0, what), first[what]);
        }
        Check.due("16 the other clerk", x.pay(3, 0, 0), 160);
        Check.due("16 none of a clerk", x.pay(0, 0, 0), 0);
        x.slip(0, 2, -1, 0, 1, -1, 5);
        Check.due("16 told late", x.pay(2, 0, 0), 60);
        int[][] wrong = {{-1, 0, 0}, {8, 0, 0}, {0, -1, 0}, {0, 13, 0}, {0, 0, -1}, {0, 0, 5},
            {LOW, 0, 0}, {HIGH, 0, 0}, {0, LOW, 0}, {0, HIGH, 0}, {0, 0, LOW}, {0, 0, HIGH}};
        for (int[] w : wrong) {
            Check.due("16 pay " + java.util.Arrays.toString(w), x.pay(w[0], w[1], w[2]), CANNOT);
        }
        Check.due("16 least", x.pay(0, 0, 4), NONE);
        Check.due("16 greatest", x.pay(7, 12, 4), NONE);
    }

    private static int payOf(String pay) {
        GreatStore x = new GreatStore();
        Check.due("16 rule " + pay, ruleOf(x, "pay " + pay + " when 0=0;"), 1);
        return x.pay(0, 9, 3);
    }

    private static boolean holds(String condition) {
        GreatStore x = new GreatStore();
        Check.due("16 rule " + condition, ruleOf(x, "pay 1 when " + condition + ";"), 1);
        return x.pay(0, 9, 3) == 1;
    }

    private static void payByTheRule() {
        Check.due("16 times first", payOf("2+3*4"), 14);
        Check.due("16 from the left", payOf("20-3-4"), 13);
        Check.due("16 parts from the left", payOf("100/7/2*3"), 21);
        Check.due("16 times, then part", payOf("7*3/2"), 10);
        Check.due("16 in brackets", payOf("(2+3)*(4-(1-6))"), 45);
        Check.due("16 towards 0", payOf("(0-7)/2"), -3);
        Check.due("16 month", payOf("month*100-1"), 899);
        Check.due("16 six digits", payOf("999999"), 999999);
        Check.due("16 zeroes ahead", payOf("000012"), 12);
        Check.due("16 less", holds("1<2"), true);
        Check.due("16 not less", holds("2<2"), false);
        Check.due("16 more", holds("3>2"), true);
        Check.due("16 not more", holds("2>2"), false);
        Check.due("16 alike", holds("2=1+1"), true);
        Check.due("16 not alike", holds("2=1"), false);
        Check.due("16 both", holds("1<2 and 2<3"), true);
        Check.due("16 not the first", holds("2<1 and 2<3"), false);
        Check.due("16 not the last", holds("1<2 and 2<3 and 3<3"), false);
        GreatStore x = new GreatStore();
        x.thing(10, 99);
        x.slip(0, 1, -1, 0, 5, -1, 0);
        x.slip(0, 1, -1, 0, 2, -1, 0);
        x.slip(0, 1, -1, 0, 1, -1, 0);
        x.back(1);
        Check.due("16 lines", ruleOf(x, "pay 1 when sum>60; pay sum*100+slips*10+back when slips=3 and back>19;"
            + "pay 4 when slips=3;pay 0 when 0=0;"), 4);
        Check.due("16 sum, slips, back", x.pay(1, 0, 3), 6050);
        Check.due("16 the first line that is so", x.pay(1, 0, 4), 1);
        Check.due("16 another clerk", x.pay(2, 0, 4), 3);
        x.slip(0, 1, -1, 0, 5, -1, 0);
        Check.due("16 a line ahead", x.pay(1, 0, 4), 0);
    }

    private static void payWraps() {
        Check.due("16 wraps", payOf("999999*999999"), 999999 * 999999);
        Check.due("16 wraps in a sum", payOf("65536*32767+65535+1"), LOW);
        Check.due("16 least in parts", payOf("(65536*32767+65535+1)/1"), LOW);
        Check.due("16 least in parts of 3", payOf("(65536*32767+65535+1)/3"), LOW / 3);
        Check.due("16 below 0 is less", holds("65536*32768<0"), true);
    }

    private static void statement() {
        GreatStore x = new GreatStore();
        x.thing(10, 999);
        x.slip(1, 0, 3, 0, 1, -1, 0);
        x.slip(2, 0, 3, 0, 2, -1, 0);
        x.slip(1, 0, 4, 0, 64, -1, 0);
        x.slip(0, 0, -1, 0, 32, -1, 0);
        Check.days(x, 10);
        x.slip(1, 0, 3, 0, 4, -1, 2);
        x.slip(2, 0, 3, 0, 8, -1, 3);
        Check.days(x, 10);
        x.back(0);
        x.slip(2, 0, 3, 0, 16, -1, 20);
        x.back(6);
        Check.days(x, 10);
        x.back(1);
        int[] byDay = new int[31];
        java.util.Arrays.fill(byDay, 0, 7, 10);
        java.util.Arrays.fill(byDay, 7, 10, 30);
        java.util.Arrays.fill(byDay, 10, 20, 150);
        java.util.Arrays.fill(byDay, 20, 31, 140);
        for (int k = 0; k <= 30; k++) {
            Check.due("17 month 0 by day " + k, x.statement(3, 0, k), byDay[k]);
            Check.due("17 month 1 by day " + k, x.statement(3, 1, k), k < 30 ? 0 : -20);
            Check.due("17 the other by day " + k, x.statement(4, 0, k), 640);
        }
        Check.due("17 none of an account", x.statement(0, 0, 30), 0);
        Check.due("17 greatest", x.statement(9, 12, 30), 0);
        int[][] wrong = {{-1, 0, 0}, {10, 0, 0}, {3, -1, 0}, {3, 13, 0}, {3, 0, -1}, {3, 0, 31},
            {LOW, 0, 0}, {HIGH, 0, 0}, {3, LOW, 0}, {3, HIGH, 0}, {3, 0, LOW}, {3, 0, HIGH}};
        for (int[] w : wrong) {
            Check.due("17 statement " + java.util.Arrays.toString(w), x.statement(w[0], w[1], w[2]), CANNOT);
        }
    }

    private static void count() {
        GreatStore x = new GreatStore();
        x.thing(10, 50);
        Check.due("18 lacks", x.count(0, 47), 3);
        Check.due("18 stock", x.of(0, 1), 47);
        Check.due("18 lost", x.of(0, 3), 30);
        x.tag(0, 7);
        Check.due("18 too many", x.count(0, 49), -2);
        Check.due("18 lost by the new tag", x.of(0, 3), 16);
        Check.due("18 as many", x.count(0, 49), 0);
        for (int n : new int[] {-1, 10000, LOW, HIGH}) {
            Check.due("18 count " + n, x.count(0, n), CANNOT);
        }
        for (int t : new int[] {-1, 1, LOW, HIGH}) {
            Check.due("18 thing " + t, x.count(t, 1), CANNOT);
        }
        Check.due("18 nothing done", x.of(0, 1), 49);
        Check.due("18 lost stays", x.of(0, 3), 16);
        Check.due("18 greatest", x.count(0, 9999), -9950);
        x.slip(0, 0, -1, 0, 99, -1, 0);
        x.back(0);
        Check.due("18 back on the shelf", x.of(0, 1), 9999);
        Check.due("18 least", x.count(0, 0), 9999);
        x.tag(0, 9999);
        int lost = x.of(0, 3);
        for (int i = 0; i < 25; i++) {
            x.tag(0, 1);
            x.count(0, 9999);
            x.tag(0, 9999);
            x.count(0, 0);
            lost += 9999 * 9999 - 9999;
        }
        Check.due("18 lost wraps", x.of(0, 3), lost);
        Check.due("18 below 0 so", lost < 0, true);
    }

    private static void level() {
        GreatStore x = new GreatStore();
        int[][] wrong = {{-1, 1, 1}, {4, 1, 1}, {0, -1, 1}, {0, 1000, 1}, {0, 1, -1}, {0, 1, 100},
            {LOW, 1, 1}, {HIGH, 1, 1}, {0, LOW, 1}, {0, HIGH, 1}, {0, 1, LOW}, {0, 1, HIGH}};
        for (int[] w : wrong) {
            Check.due("19 level " + java.util.Arrays.toString(w), x.level(w[0], w[1], w[2]), false);
        }
        Check.due("19 nothing done", x.best(200, 8, 0, 0), 0);
        Check.due("19 greatest", x.level(3, 999, 99), true);
        Check.due("19 its sum", x.best(200, 1, 0, 0), 999 * 99);
        Check.due("19 a wrong want", x.level(3, 1, 100), false);
        Check.due("19 it stays", x.best(200, 1, 0, 0), 999 * 99);
        Check.due("19 least", x.level(3, 0, 0), true);
        Check.due("19 its sum", x.best(200, 1, 0, 0), 0);
        Check.due("19 the first", x.level(0, 5, 2), true);
        Check.due("19 its sum", x.best(200, 3, 0, 0), 30);
    }

    private static void best() {
        GreatStore x = new GreatStore();
        x.level(0, 100, 2);
        x.level(1, 50, 5);
        x.level(2, 60, 4);
        x.level(3, 10, 90);
        int[][] due = {
            {20, 3, 0, 0, 750}, {20, 3, 0, 1, 5}, {20, 3, 0, 10, 1}, {20, 3, 0, 11, 1}, {20, 3, 0, 12, 1},
            {4, 2, 0, 0, 400}, {4, 2, 0, 10, 0}, {4, 2, 0, 11, 0}, {4, 2, 0, 1, 0},
            {20, 3, 2, 0, 720}, {20, 3, 2, 10, 2}, {20, 3, 3, 0, 200}, {20, 3, 3, 11, 3},
            {200, 8, 3, 0, 2000}, {0, 8, 1, 0, 0}, {0, 8, 1, 17, 1}, {0, 0, 0, 1, 0}, {200, 0, 3, 1, 200},
            {20, 3, 0, 13, NONE}, {20, 3, 0, 9, NONE}, {20, 3, 0, 2, NONE}, {20, 3, 0, -1, NONE},
            {20, 0, 0, 10, NONE}, {20, 8, 0, 18, NONE}, {20, 3, 0, LOW, NONE}, {20, 3, 0, HIGH, NONE},
            {-1, 3, 0, 0, NONE}, {201, 3, 0, 0, NONE}, {LOW, 3, 0, 0, NONE}, {HIGH, 3, 0, 0, NONE},
            {20, -1, 0, 0, NONE}, {20, 9, 0, 0, NONE}, {20, LOW, 0, 0, NONE}, {20, HIGH, 0, 0, NONE},
            {20, 3, -1, 0, NONE}, {20, 3, 4, 0, NONE}, {20, 3, LOW, 0, NONE}, {20, 3, HIGH, 0, NONE},
        };
        for (int[] d : due) {
            Check.due("20 best " + java.util.Arrays.toString(d), x.best(d[0], d[1], d[2], d[3]), d[4]);
        }
        GreatStore y = new GreatStore();
        y.level(0, 10, 2);
        y.level(1, 5, 4);
        y.level(2, 10, 2);
        Check.due("20 alike: the sum", y.best(8, 3, 0, 0), 60);
        for (int w = 0; w < 3; w++) {
            Check.due("20 alike: the lesser first, week " + w, y.best(8, 3, 0, 10 + w), 0);
        }
        Check.due("20 alike: left", y.best(8, 3, 0, 1), 2);
        int[] row = {1, 2, 2};
        for (int w = 0; w < 3; w++) {
            Check.due("20 alike, from 1: week " + w, y.best(8, 3, 1, 10 + w), row[w]);
        }
    }
}
