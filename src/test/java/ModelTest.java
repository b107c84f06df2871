import java.util.Random;

/** Long runs of calls, the same on every machine, against a second store written for the tests. */
public final class ModelTest {
    private static final int[] ODD = {-2, -1, Integer.MIN_VALUE, Integer.MAX_VALUE, 1000000};
    private static final int MOST_CALLS = 512;

    private final Random random;
    private final GreatStore x = new GreatStore();
    private final Model m = new Model();
    private final String run;
    private final int pace;
    private int calls = 0;

    private ModelTest(long seed) {
        random = new Random(seed);
        run = "run " + seed + ": ";
        pace = new int[] {2, 5, 10, 40}[random.nextInt(4)];
    }

    public static void main(String[] args) {
        for (long seed = 1; seed <= 1500; seed++) {
            new ModelTest(seed).go();
        }
        for (long seed = 1; seed <= 6000; seed++) {
            new ModelTest(seed).goByRules();
        }
        for (long seed = 1; seed <= 400; seed++) {
            new ModelTest(seed).goByCuts();
        }
        Check.finish();
    }

    /** Mostly 0 .. n - 1, at times just outside or far from it. */
    private int upTo(int n) {
        if (random.nextInt(40) == 0) {
            return random.nextBoolean() ? n : ODD[random.nextInt(ODD.length)];
        }
        return random.nextInt(n);
    }

    private void due(String call, long got, long want) {
        calls++;
        Check.due(run + call, got, want);
    }

    private void due(String call, boolean got, boolean want) {
        due(call, got ? 1 : 0, want ? 1 : 0);
    }

    private void go() {
        int things = 1 + random.nextInt(4);
        for (int i = 0; i < things; i++) {
            comeThing();
        }
        while (calls < MOST_CALLS - 30) {
            int kind = random.nextInt(100);
            if (kind < pace) {
                days(1 + random.nextInt(pace));
            } else if (kind < 45) {
                change();
            } else {
                ask();
            }
        }
    }

    private void days(int n) {
        for (int i = 0; i < n && calls < MOST_CALLS - 30; i++) {
            due("next", x.next(), m.next());
        }
    }

    private void comeThing() {
        int tag = upTo(3) == 0 ? upTo(10000) : 1 + upTo(300);
        int stock = upTo(1000);
        due("thing " + tag + " " + stock, x.thing(tag, stock), m.thing(tag, stock));
    }

    private void change() {
        int kind = random.nextInt(20);
        int t = upTo(Math.max(1, m.things.size()));
        if (kind < 9) {
            tellSlip(t);
        } else if (kind < 12) {
            int i = upTo(Math.max(1, m.slips.size()));
            due("back " + i, x.back(i), m.back(i));
        } else if (kind < 14) {
            int room = random.nextInt(3) == 0 ? upTo(501) : upTo(40);
            due("van " + room, x.van(room), m.van(room));
        } else if (kind < 16) {
            int v = random.nextInt(4) == 0 ? upTo(10000) : 1 + upTo(30);
            due("tag " + t + " " + v, x.tag(t, v), m.tag(t, v));
        } else if (kind < 17) {
            int n = random.nextInt(3) == 0 ? upTo(10000) : upTo(300);
            due("count " + t + " " + n, x.count(t, n), m.count(t, n));
        } else if (kind < 18) {
            comeThing();
        } else {
            tellRule();
        }
    }

    private void tellSlip(int t) {
        int kind = upTo(3);
        int account = random.nextInt(20) == 0 ? upTo(10) : kind == 0 ? -1 : upTo(3);
        int pieces = random.nextInt(4) == 0 ? upTo(100) : 1 + upTo(9);
        int house = random.nextInt(3) == 0 ? -1 : random.nextInt(3) == 0 ? upTo(20) : upTo(5);
        int day = random.nextBoolean() ? m.day : m.day - random.nextInt(31) + (random.nextInt(20) == 0 ? 1 : 0);
        int clerk = random.nextInt(10) == 0 ? upTo(8) : upTo(2);
        String call = "slip " + kind + " " + clerk + " " + account + " " + t + " " + pieces + " " + house + " " + day;
        due(call, x.slip(kind, clerk, account, t, pieces, house, day),
            m.slip(kind, clerk, account, t, pieces, house, day));
    }

    private void tellRule() {
        String text = new RuleTexts(random).text();
        Check.type(x, text);
        calls += text.length() / 20 + 2;
        int lines = m.rule(text);
        due("rule of " + text, x.rule(), lines);
        due("fault of " + text, x.fault(0), m.fault);
        due("place in " + text, x.fault(1), m.place);
    }

    private void ask() {
        int t = upTo(Math.max(1, m.things.size()));
        int i = upTo(Math.max(1, m.slips.size()));
        int month = random.nextInt(3) == 0 ? upTo(13) : m.day / 28;
        int k = random.nextInt(3) == 0 ? m.day : upTo(m.day + 1);
        int clerk = random.nextInt(5) == 0 ? upTo(8) : upTo(2);
        int what = upTo(7);
        switch (random.nextInt(8)) {
            case 0:
                int of = random.nextBoolean() ? upTo(4) : 1000 + upTo(m.day + 1);
                due("of " + t + " " + of, x.of(t, of), m.of(t, of));
                break;
            case 1:
            case 2:
                due("paper " + i + " " + what, x.paper(i, what), m.paper(i, what));
                break;
            case 3:
                due("look " + what, x.look(what), m.look(what));
                break;
            case 4:
                int h = upTo(5);
                due("house " + h, x.house(h), m.house(h));
                break;
            case 5:
                int pay = upTo(5);
                due("pay " + clerk + " " + month + " " + pay, x.pay(clerk, month, pay), m.pay(clerk, month, pay));
                break;
            default:
                int a = random.nextInt(10) == 0 ? upTo(10) : upTo(3);
                due("statement " + a + " " + month + " " + k, x.statement(a, month, k), m.statement(a, month, k));
        }
    }

    private void goByRules() {
        comeThing();
        for (int n = 0; n < 6; n++) {
            tellSlip(0);
        }
        for (int n = 0; n < 8; n++) {
            tellRule();
            due("lines", x.look(6), m.look(6));
            for (int what = 0; what < 5; what++) {
                int clerk = random.nextInt(3);
                int month = random.nextInt(3);
                due("pay " + clerk + " " + month + " " + what, x.pay(clerk, month, what), m.pay(clerk, month, what));
            }
        }
    }

    private void goByCuts() {
        for (int n = 0; n < 8; n++) {
            for (int l = 0; l < 4; l++) {
                int price = random.nextBoolean() ? upTo(6) : upTo(1000);
                int want = random.nextBoolean() ? upTo(6) : upTo(100);
                due("level " + l + " " + price + " " + want, x.level(l, price, want), m.level(l, price, want));
            }
            int pieces = random.nextBoolean() ? upTo(30) : upTo(201);
            int weeks = upTo(9);
            int from = upTo(4);
            for (int what : new int[] {0, 1, 10, 11, 12, 13, 14, 15, 16, 17, 18, 9, 2}) {
                due("best " + pieces + " " + weeks + " " + from + " " + what,
                    x.best(pieces, weeks, from, what), m.best(pieces, weeks, from, what));
            }
        }
    }
}
