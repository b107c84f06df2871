import java.util.ArrayList;
import java.util.Arrays;
import java.util.List;
import java.util.regex.Matcher;
import java.util.regex.Pattern;

/** The document's words told a second time: it keeps what happened, and works all else out of it. */
final class Model {
    private static final int CANNOT = -1000001;
    private static final Pattern TOKEN = Pattern.compile("[A-Za-z]+|[0-9]+|[^ \n]");

    static final class OneThing {
        int came;
        int stock;
        int raised;
        int lost;
        /** Pairs of a day and the tag from then on. */
        final List<int[]> tags = new ArrayList<>();

        int tagOn(int day) {
            int tag = 0;
            for (int[] change : tags) {
                if (change[0] <= day) {
                    tag = change[1];
                }
            }
            return tag;
        }
    }

    static final class OneSlip {
        int kind;
        int clerk;
        int account;
        int thing;
        int pieces;
        int house;
        int day;
        int told;
        int worth;
        int back = -1;
        int round = -1;

        /** The day on which it was sold, by what was so on a day; -1 if it was not. */
        int soldBy(int k) {
            int due = day + (kind == 2 ? 7 : 0);
            boolean cameAhead = back != -1 && back < due;
            return cameAhead || due > k ? -1 : due;
        }
    }

    int day = 0;
    final List<OneThing> things = new ArrayList<>();
    final List<OneSlip> slips = new ArrayList<>();
    int fault = 0;
    int place = -1;
    private int rounds = 0;
    private List<Integer> houses = new ArrayList<>();
    private List<List<String>> lines = new ArrayList<>();
    private final int[] price = new int[4];
    private final int[] want = new int[4];

    private static boolean in(int v, int least, int most) {
        return least <= v && v <= most;
    }

    int thing(int tag, int stock) {
        if (things.size() == 12 || !in(tag, 1, 9999) || !in(stock, 0, 999)) {
            return -1;
        }
        OneThing thing = new OneThing();
        thing.came = day;
        thing.stock = stock;
        thing.tags.add(new int[] {day, tag});
        things.add(thing);
        return things.size() - 1;
    }

    int tag(int t, int v) {
        if (!in(t, 0, things.size() - 1) || !in(v, 1, 9999)) {
            return -1;
        }
        OneThing thing = things.get(t);
        int was = thing.tagOn(day);
        thing.tags.add(new int[] {day, v});
        thing.raised += v > was ? 1 : 0;
        return v == was ? 0 : v > was ? 2 : 1;
    }

    int of(int t, int what) {
        if (!in(t, 0, things.size() - 1)) {
            return -1;
        }
        OneThing thing = things.get(t);
        if (in(what, 0, 3)) {
            return new int[] {thing.tagOn(day), thing.stock, thing.raised, thing.lost}[what];
        }
        return in(what, 1000, 1000 + day) ? thing.tagOn(what - 1000) : -1;
    }

    int next() {
        if (day == 363) {
            return -1;
        }
        rounds = 0;
        return ++day;
    }

    int slip(int kind, int clerk, int account, int t, int pieces, int house, int onDay) {
        boolean accountFits = kind == 0 ? account == -1 : in(account, 0, 9);
        boolean fits = in(kind, 0, 2) && in(clerk, 0, 7) && accountFits && in(t, 0, things.size() - 1)
            && in(pieces, 1, 99) && in(house, -1, 19) && in(onDay, Math.max(0, day - 28), day) && slips.size() < 120;
        if (!fits || things.get(t).came > onDay || things.get(t).stock < pieces) {
            return -1;
        }
        OneSlip slip = new OneSlip();
        slip.kind = kind;
        slip.clerk = clerk;
        slip.account = account;
        slip.thing = t;
        slip.pieces = pieces;
        slip.house = house;
        slip.day = onDay;
        slip.told = day;
        slip.worth = pieces * things.get(t).tagOn(onDay);
        things.get(t).stock -= pieces;
        slips.add(slip);
        return slips.size() - 1;
    }

    int paper(int i, int what) {
        if (!in(i, 0, slips.size() - 1) || !in(what, 0, 6)) {
            return -1;
        }
        OneSlip s = slips.get(i);
        int sold = s.soldBy(day);
        int state = s.back != -1 ? 2 : sold != -1 ? 0 : 1;
        return new int[] {state, s.worth, s.day, s.told, sold, s.back, s.round}[what];
    }

    boolean back(int i) {
        if (!in(i, 0, slips.size() - 1)) {
            return false;
        }
        OneSlip s = slips.get(i);
        int sold = s.soldBy(day);
        if (s.back != -1 || sold != -1 && day - sold > 28) {
            return false;
        }
        s.back = day;
        things.get(s.thing).stock += s.pieces;
        return true;
    }

    private List<OneSlip> parcels() {
        List<OneSlip> parcels = new ArrayList<>();
        for (OneSlip s : slips) {
            if (s.house >= 0 && s.back < 0 && s.round < 0) {
                parcels.add(s);
            }
        }
        return parcels;
    }

    int look(int what) {
        int approvals = 0;
        for (int i = 0; i < slips.size(); i++) {
            approvals += paper(i, 0) == 1 ? 1 : 0;
        }
        int[] all = {day, things.size(), slips.size(), approvals, parcels().size(), rounds, lines.size()};
        return in(what, 0, 6) ? all[what] : -1;
    }

    int van(int room) {
        if (!in(room, 0, 500) || rounds == 2) {
            return -1;
        }
        List<OneSlip> parcels = parcels();
        List<Integer> order = new ArrayList<>();
        for (OneSlip s : parcels) {
            if (!order.contains(s.house)) {
                order.add(s.house);
            }
        }
        houses = new ArrayList<>();
        int went = 0;
        for (int house : order) {
            int pieces = parcels.stream().filter(s -> s.house == house).mapToInt(s -> s.pieces).sum();
            if (went + pieces <= room) {
                went += pieces;
                houses.add(house);
                int round = 2 * day + rounds;
                parcels.stream().filter(s -> s.house == house).forEach(s -> s.round = round);
            }
        }
        rounds++;
        return went;
    }

    int house(int i) {
        return in(i, 0, houses.size() - 1) ? houses.get(i) : -1;
    }

    private static boolean isUnit(String token) {
        return token.matches("[0-9]{1,6}|sum|slips|back|month");
    }

    /** Goes through the tokens by what may stand next: a line, a unit, what follows one, a divisor. */
    int rule(String text) {
        fault = 0;
        place = -1;
        List<List<String>> told = new ArrayList<>();
        char next = 'L';
        String part = "";
        int open = 0;
        Matcher tokens = TOKEN.matcher(text);
        while (tokens.find() && fault == 0) {
            String token = tokens.group();
            place = tokens.start();
            String follows = part.equals("pay") ? "when" : part.equals("left") ? "[<=>]" : "and|;";
            if (next == 'L' && token.equals("pay")) {
                fault = told.size() == 8 ? 3 : 0;
                told.add(new ArrayList<>());
                part = "pay";
                next = 'U';
            } else if (next == 'U' && token.equals("(")) {
                open++;
                fault = open == 9 ? 3 : 0;
            } else if (next == 'U' && isUnit(token)) {
                next = 'F';
            } else if (next == 'D' && token.matches("[0-9]{1,6}")) {
                fault = token.matches("0+") ? 2 : 0;
                next = 'F';
            } else if (next == 'F' && token.equals(")") && open > 0) {
                open--;
            } else if (next == 'F' && token.matches("[-+*/]")) {
                next = token.equals("/") ? 'D' : 'U';
            } else if (next == 'F' && open == 0 && token.matches(follows)) {
                part = part.equals("left") ? "right" : "left";
                next = token.equals(";") ? 'L' : 'U';
            } else {
                fault = 1;
            }
            if (fault == 0) {
                told.get(told.size() - 1).add(token);
            }
        }
        if (fault == 0 && next != 'L') {
            fault = 1;
            place = text.length();
        }
        if (fault != 0) {
            return -1;
        }
        place = -1;
        lines = told;
        return told.size();
    }

    /** The last place of one of some tokens that is inside no bracket; -1 without one. */
    private static int lastOutside(List<String> tokens, String some) {
        int open = 0;
        for (int i = tokens.size() - 1; i >= 0; i--) {
            String token = tokens.get(i);
            open += token.equals(")") ? 1 : token.equals("(") ? -1 : 0;
            if (open == 0 && token.matches(some)) {
                return i;
            }
        }
        return -1;
    }

    private static int value(List<String> e, int[] known) {
        int at = lastOutside(e, "[-+]");
        if (at < 0) {
            at = lastOutside(e, "[*/]");
        }
        if (at >= 0) {
            int left = value(e.subList(0, at), known);
            int right = value(e.subList(at + 1, e.size()), known);
            switch (e.get(at)) {
                case "+": return left + right;
                case "-": return left - right;
                case "*": return left * right;
                default: return (int) ((long) left / right);
            }
        }
        if (e.get(0).equals("(")) {
            return value(e.subList(1, e.size() - 1), known);
        }
        int word = Arrays.asList("sum", "slips", "back", "month").indexOf(e.get(0));
        return word >= 0 ? known[word] : Integer.parseInt(e.get(0));
    }

    private static boolean isSo(List<String> b, int[] known) {
        int and = b.lastIndexOf("and");
        if (and >= 0) {
            return isSo(b.subList(0, and), known) && isSo(b.subList(and + 1, b.size()), known);
        }
        int sign = lastOutside(b, "[<=>]");
        int order = Integer.compare(value(b.subList(0, sign), known), value(b.subList(sign + 1, b.size()), known));
        return b.get(sign).equals("<") ? order < 0 : b.get(sign).equals(">") ? order > 0 : order == 0;
    }

    int pay(int clerk, int month, int what) {
        if (!in(clerk, 0, 7) || !in(month, 0, 12) || !in(what, 0, 4)) {
            return CANNOT;
        }
        int[] known = {0, 0, 0, month};
        for (OneSlip s : slips) {
            int sold = s.soldBy(day);
            if (s.clerk == clerk && sold != -1) {
                boolean soldIn = in(sold, 28 * month, 28 * month + 27);
                boolean backIn = in(s.back, 28 * month, 28 * month + 27);
                known[0] += (soldIn ? s.worth : 0) - (backIn ? s.worth : 0);
                known[1] += soldIn ? 1 : 0;
                known[2] += backIn ? s.worth : 0;
            }
        }
        if (what < 3) {
            return known[what];
        }
        for (int i = 0; i < lines.size(); i++) {
            List<String> line = lines.get(i);
            int when = line.indexOf("when");
            if (isSo(line.subList(when + 1, line.size() - 1), known)) {
                return what == 4 ? i : value(line.subList(1, when), known);
            }
        }
        return what == 4 ? -1 : 0;
    }

    int statement(int account, int month, int k) {
        if (!in(account, 0, 9) || !in(month, 0, 12) || !in(k, 0, day)) {
            return CANNOT;
        }
        int sum = 0;
        for (OneSlip s : slips) {
            int sold = s.soldBy(k);
            if (s.account == account && s.told <= k && sold != -1) {
                sum += in(sold, 28 * month, 28 * month + 27) ? s.worth : 0;
                sum -= s.back <= k && in(s.back, 28 * month, 28 * month + 27) ? s.worth : 0;
            }
        }
        return sum;
    }

    int count(int t, int n) {
        if (!in(t, 0, things.size() - 1) || !in(n, 0, 9999)) {
            return CANNOT;
        }
        OneThing thing = things.get(t);
        int lacks = thing.stock - n;
        thing.stock = n;
        thing.lost = (int) ((long) thing.lost + (long) lacks * thing.tagOn(day));
        return lacks;
    }

    boolean level(int l, int newPrice, int newWant) {
        if (!in(l, 0, 3) || !in(newPrice, 0, 999) || !in(newWant, 0, 99)) {
            return false;
        }
        price[l] = newPrice;
        want[l] = newWant;
        return true;
    }

    /** The best answer for the weeks that are left: the sum, the pieces left, then the levels. */
    private int[] bestOf(int pieces, int weeks, int from) {
        int[] best = {0, pieces};
        if (weeks == 0) {
            return best;
        }
        for (int l = 3; l >= from; l--) {
            int gone = Math.min(want[l], pieces);
            int[] rest = bestOf(pieces - gone, weeks - 1, l);
            if (best.length == 2 || rest[0] + gone * price[l] >= best[0]) {
                best = new int[weeks + 2];
                best[0] = rest[0] + gone * price[l];
                best[1] = rest[1];
                best[2] = l;
                System.arraycopy(rest, 2, best, 3, weeks - 1);
            }
        }
        return best;
    }

    int best(int pieces, int weeks, int from, int what) {
        if (!in(pieces, 0, 200) || !in(weeks, 0, 8) || !in(from, 0, 3)) {
            return -1;
        }
        int[] best = bestOf(pieces, weeks, from);
        if (in(what, 0, 1)) {
            return best[what];
        }
        return in(what, 10, 9 + weeks) ? best[what - 8] : -1;
    }
}
