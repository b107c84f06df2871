import java.util.ArrayList;

/**
 * A great store, as ../shared/DOC.md promises it. In the document's words, "ahead" of a day is
 * earlier and "behind" it is later; NONE is what is answered where there is none such.
 */
public final class GreatStore {
    public static final int NONE = -1;

    /** NONE itself could be a sum, a pay or what lacks, so those calls refuse by this number. */
    private static final int CANNOT_BE = NONE - 1000000;

    private static final int DAYS = 364;
    private static final int MONTH_DAYS = 28;
    private static final int LAST_MONTH = 12;

    private static final int MOST_THINGS = 12;
    private static final int MOST_TAG = 9999;
    private static final int MOST_STOCK = 999;
    private static final int MOST_COUNTED = 9999;
    private static final int TAG_OF_DAY = 1000;

    private static final int CASH = 0;
    private static final int APPROVAL = 2;
    private static final int MOST_SLIPS = 120;
    private static final int MOST_PIECES = 99;
    private static final int LAST_CLERK = 7;
    private static final int LAST_ACCOUNT = 9;
    private static final int MOST_LATE = 28;
    private static final int APPROVAL_DAYS = 7;
    private static final int BACK_DAYS = 28;

    private static final int HOUSES = 20;
    private static final int MOST_ROOM = 500;
    private static final int ROUNDS_A_DAY = 2;

    private static final int TAPE_ROOM = 400;
    private static final int FEED_BYTES = 20;
    private static final int RULE_LINES = 8;
    private static final int MOST_OPEN = 8;
    private static final int STACK_ROOM = 64;

    private static final int LEVELS = 4;
    private static final int MOST_PRICE = 999;
    private static final int MOST_WANT = 99;
    private static final int MOST_CUT_PIECES = 200;
    private static final int MOST_WEEKS = 8;
    private static final int MOST_ROWS = 65536;
    private static final int LEVEL_OF_WEEK = 10;

    private final ArrayList<Thing> things;
    private final ArrayList<Slip> slips;
    private final Van wagon;
    private final Tape tape;
    private final Tokens tokens;
    private final RuleReader reader;
    private final Takings takings;
    private final Cuts cuts;
    private Rule theRule;
    private Rule spareRule;
    private int today;

    public GreatStore() {
        things = new ArrayList<>();
        slips = new ArrayList<>();
        wagon = new Van();
        tape = new Tape();
        tokens = new Tokens();
        theRule = new Rule();
        spareRule = new Rule();
        reader = new RuleReader(tokens, spareRule);
        takings = new Takings();
        cuts = new Cuts();
        today = 0;
    }

    public int thing(int tag, int stock) {
        if (things.size() >= MOST_THINGS || !isTag(tag) || !isWithin(stock, 0, MOST_STOCK)) {
            return NONE;
        }
        things.add(new Thing(today, tag, stock));
        return things.size() - 1;
    }

    public int tag(int t, int v) {
        Thing thing = thingAt(t);
        if (thing == null || !isTag(v)) {
            return NONE;
        }
        return thing.changeTag(today, v);
    }

    public int of(int t, int what) {
        Thing thing = thingAt(t);
        if (thing == null) {
            return NONE;
        }
        if (what >= TAG_OF_DAY) {
            int day = what - TAG_OF_DAY;
            return day <= today ? thing.tagOn(day) : NONE;
        }
        switch (what) {
            case 0: return thing.tagOn(today);
            case 1: return thing.stock;
            case 2: return thing.raised;
            case 3: return thing.lost;
            default: return NONE;
        }
    }

    public int next() {
        if (today >= DAYS - 1) {
            return NONE;
        }
        today++;
        for (int t = 0; t < things.size(); t++) {
            things.get(t).keepTag(today);
        }
        for (int i = 0; i < slips.size(); i++) {
            slips.get(i).sellBy(today);
        }
        wagon.roundsToday = 0;
        return today;
    }

    public int slip(int kind, int clerk, int account, int t, int pieces, int house, int day) {
        Thing thing = thingAt(t);
        if (thing == null || slips.size() >= MOST_SLIPS) {
            return NONE;
        }
        if (!isBuyer(kind, account) || !isWithin(clerk, 0, LAST_CLERK) || !isHouseOrNone(house)) {
            return NONE;
        }
        if (!isWithin(day, today - MOST_LATE, today) || day < thing.came) {
            return NONE;
        }
        if (!isWithin(pieces, 1, MOST_PIECES) || pieces > thing.stock) {
            return NONE;
        }
        thing.stock -= pieces;
        Slip slip = new Slip(kind, clerk, account, thing, pieces, house, day);
        slip.told = today;
        slip.sellBy(today);
        slips.add(slip);
        return slips.size() - 1;
    }

    public int paper(int i, int what) {
        Slip slip = slipAt(i);
        if (slip == null) {
            return NONE;
        }
        switch (what) {
            case 0: return slip.state();
            case 1: return slip.worth;
            case 2: return slip.day;
            case 3: return slip.told;
            case 4: return slip.sold;
            case 5: return slip.cameBack;
            case 6: return slip.round;
            default: return NONE;
        }
    }

    public boolean back(int i) {
        Slip slip = slipAt(i);
        if (slip == null || !slip.canComeBack(today)) {
            return false;
        }
        slip.cameBack = today;
        slip.thing.stock += slip.pieces;
        return true;
    }

    public int look(int what) {
        switch (what) {
            case 0: return today;
            case 1: return things.size();
            case 2: return slips.size();
            case 3: return countOnApproval();
            case 4: return countParcels();
            case 5: return wagon.roundsToday;
            case 6: return theRule.lineCount;
            default: return NONE;
        }
    }

    public int van(int room) {
        if (!isWithin(room, 0, MOST_ROOM) || wagon.roundsToday >= ROUNDS_A_DAY) {
            return NONE;
        }
        return wagon.goRound(slips, room, today);
    }

    public int house(int i) {
        return wagon.houseAt(i);
    }

    public int feed(int a, int b, int c, int d, int e) {
        if (tape.length > TAPE_ROOM - FEED_BYTES) {
            return NONE;
        }
        tape.append(a);
        tape.append(b);
        tape.append(c);
        tape.append(d);
        tape.append(e);
        return tape.length;
    }

    public boolean end(int n) {
        if (!isWithin(n, 0, tape.length)) {
            return false;
        }
        tape.length = n;
        return true;
    }

    public int rule() {
        tokens.scan(tape.bytes, tape.length);
        tape.length = 0;
        // read into the spare one, so that THE RULE stays if there is a fault
        if (!reader.read(spareRule)) {
            return NONE;
        }
        Rule old = theRule;
        theRule = spareRule;
        spareRule = old;
        return theRule.lineCount;
    }

    public int fault(int what) {
        switch (what) {
            case 0: return reader.fault;
            case 1: return reader.place;
            default: return NONE;
        }
    }

    public int pay(int clerk, int month, int what) {
        if (!isWithin(clerk, 0, LAST_CLERK) || !isWithin(month, 0, LAST_MONTH)) {
            return CANNOT_BE;
        }
        takings.gather(slips, clerk, month);
        switch (what) {
            case 0: return takings.sum;
            case 1: return takings.slipCount;
            case 2: return takings.cameBack;
            case 3: return theRule.payFor(takings);
            case 4: return theRule.lineFor(takings);
            default: return CANNOT_BE;
        }
    }

    public int statement(int account, int month, int k) {
        if (!isWithin(account, 0, LAST_ACCOUNT) || !isWithin(month, 0, LAST_MONTH)) {
            return CANNOT_BE;
        }
        if (!isWithin(k, 0, today)) {
            return CANNOT_BE;
        }
        int sum = 0;
        for (int i = 0; i < slips.size(); i++) {
            Slip slip = slips.get(i);
            if (slip.account == account) {
                sum += slip.statedWorth(month, k);
            }
        }
        return sum;
    }

    public int count(int t, int n) {
        Thing thing = thingAt(t);
        if (thing == null || !isWithin(n, 0, MOST_COUNTED)) {
            return CANNOT_BE;
        }
        int lacks = thing.stock - n;
        thing.stock = n;
        thing.lost += lacks * thing.tagOn(today);
        return lacks;
    }

    public boolean level(int l, int price, int want) {
        if (!isLevel(l) || !isWithin(price, 0, MOST_PRICE) || !isWithin(want, 0, MOST_WANT)) {
            return false;
        }
        cuts.prices[l] = price;
        cuts.wants[l] = want;
        return true;
    }

    public int best(int pieces, int weeks, int from, int what) {
        if (!isWithin(pieces, 0, MOST_CUT_PIECES) || !isWithin(weeks, 0, MOST_WEEKS) || !isLevel(from)) {
            return NONE;
        }
        cuts.seek(pieces, weeks, from);
        if (what == 0) {
            return cuts.bestSum;
        }
        if (what == 1) {
            return cuts.bestLeft;
        }
        if (isWithin(what, LEVEL_OF_WEEK, LEVEL_OF_WEEK + weeks - 1)) {
            return cuts.bestRow[what - LEVEL_OF_WEEK];
        }
        return NONE;
    }

    private Thing thingAt(int t) {
        return t >= 0 && t < things.size() ? things.get(t) : null;
    }

    private Slip slipAt(int i) {
        return i >= 0 && i < slips.size() ? slips.get(i) : null;
    }

    private int countOnApproval() {
        int found = 0;
        for (int i = 0; i < slips.size(); i++) {
            if (slips.get(i).state() == Slip.ON_APPROVAL) {
                found++;
            }
        }
        return found;
    }

    private int countParcels() {
        int found = 0;
        for (int i = 0; i < slips.size(); i++) {
            if (slips.get(i).isParcel()) {
                found++;
            }
        }
        return found;
    }

    private static boolean isWithin(int x, int least, int most) {
        return x >= least && x <= most;
    }

    private static boolean isTag(int v) {
        return isWithin(v, 1, MOST_TAG);
    }

    private static boolean isLevel(int l) {
        return isWithin(l, 0, LEVELS - 1);
    }

    private static boolean isHouseOrNone(int house) {
        return isWithin(house, NONE, HOUSES - 1);
    }

    private static boolean isBuyer(int kind, int account) {
        if (kind == CASH) {
            return account == NONE;
        }
        return isWithin(kind, CASH, APPROVAL) && isWithin(account, 0, LAST_ACCOUNT);
    }

    private static final class Thing {
        /** One for each day up to now; 0 ahead of the thing's coming. */
        final int[] tags;
        final int came;
        int stock;
        int raised;
        int lost;

        Thing(int came, int tag, int stock) {
            this.tags = new int[DAYS];
            this.came = came;
            this.stock = stock;
            if (came >= 0 && came < DAYS) {
                this.tags[came] = tag;
            }
        }

        int tagOn(int day) {
            return day >= 0 && day < DAYS ? tags[day] : 0;
        }

        void keepTag(int day) {
            if (day >= 1 && day < DAYS) {
                tags[day] = tags[day - 1];
            }
        }

        /** Answers 1 for a cut, 2 for a raise, 0 for the tag as it was. */
        int changeTag(int day, int v) {
            int old = tagOn(day);
            if (v == old || day < 0 || day >= DAYS) {
                return 0;
            }
            tags[day] = v;
            if (v < old) {
                return 1;
            }
            raised++;
            return 2;
        }
    }

    private static final class Slip {
        static final int SOLD = 0;
        static final int ON_APPROVAL = 1;
        static final int BACK = 2;

        final int kind;
        final int clerk;
        final int account;
        final Thing thing;
        final int pieces;
        final int house;
        final int day;
        /** Kept from the start: the tag of its day may still change on that day. */
        final int worth;
        int told;
        int sold;
        int cameBack;
        int round;

        Slip(int kind, int clerk, int account, Thing thing, int pieces, int house, int day) {
            this.kind = kind;
            this.clerk = clerk;
            this.account = account;
            this.thing = thing;
            this.pieces = pieces;
            this.house = house;
            this.day = day;
            this.worth = pieces * thing.tagOn(day);
            this.told = day;
            this.sold = NONE;
            this.cameBack = NONE;
            this.round = NONE;
        }

        int state() {
            if (cameBack != NONE) {
                return BACK;
            }
            return sold == NONE ? ON_APPROVAL : SOLD;
        }

        boolean isParcel() {
            return house != NONE && round == NONE && cameBack == NONE;
        }

        void sellBy(int today) {
            int due = kind == APPROVAL ? day + APPROVAL_DAYS : day;
            if (state() == ON_APPROVAL && due <= today) {
                sold = due;
            }
        }

        boolean canComeBack(int today) {
            if (cameBack != NONE) {
                return false;
            }
            return sold == NONE || today <= sold + BACK_DAYS;
        }

        boolean wasSoldIn(int month) {
            return sold != NONE && sold / MONTH_DAYS == month;
        }

        /** What comes back while it is on approval has never been sold, and takes nothing away. */
        boolean cameBackSoldIn(int month) {
            return sold != NONE && cameBack != NONE && cameBack / MONTH_DAYS == month;
        }

        int statedWorth(int month, int k) {
            int stated = 0;
            if (told > k) {
                return stated;
            }
            if (wasSoldIn(month) && sold <= k) {
                stated += worth;
            }
            if (cameBackSoldIn(month) && cameBack <= k) {
                stated -= worth;
            }
            return stated;
        }
    }

    private static final class Van {
        final int[] houses;
        final boolean[] asked;
        int houseCount;
        int roundsToday;

        Van() {
            houses = new int[HOUSES];
            asked = new boolean[HOUSES];
            houseCount = 0;
            roundsToday = 0;
        }

        int houseAt(int i) {
            return i >= 0 && i < houseCount && i < HOUSES ? houses[i] : NONE;
        }

        int goRound(ArrayList<Slip> slips, int room, int today) {
            int round = 2 * today + roundsToday;
            int left = room;
            roundsToday++;
            houseCount = 0;
            for (int h = 0; h < HOUSES; h++) {
                asked[h] = false;
            }
            for (int i = 0; i < slips.size(); i++) {
                Slip slip = slips.get(i);
                if (slip.isParcel() && askOnce(slip.house)) {
                    int pieces = piecesFor(slips, slip.house);
                    if (pieces <= left) {
                        left -= pieces;
                        take(slips, slip.house, round);
                    }
                }
            }
            return room - left;
        }

        /** False if the house was asked: room only shrinks, so asking it again would be in vain. */
        private boolean askOnce(int house) {
            if (house < 0 || house >= HOUSES || asked[house]) {
                return false;
            }
            asked[house] = true;
            return true;
        }

        private int piecesFor(ArrayList<Slip> slips, int house) {
            int pieces = 0;
            for (int i = 0; i < slips.size(); i++) {
                Slip slip = slips.get(i);
                if (slip.house == house && slip.isParcel()) {
                    pieces += slip.pieces;
                }
            }
            return pieces;
        }

        private void take(ArrayList<Slip> slips, int house, int round) {
            if (houseCount < HOUSES) {
                houses[houseCount] = house;
                houseCount++;
            }
            for (int i = 0; i < slips.size(); i++) {
                Slip slip = slips.get(i);
                if (slip.house == house && slip.isParcel()) {
                    slip.round = round;
                }
            }
        }
    }

    /** The bytes that are to become the rule. */
    private static final class Tape {
        final byte[] bytes;
        int length;

        Tape() {
            bytes = new byte[TAPE_ROOM];
            length = 0;
        }

        void append(int four) {
            for (int shift = 24; shift >= 0; shift -= 8) {
                if (length >= 0 && length < TAPE_ROOM) {
                    bytes[length] = (byte) (four >>> shift);
                    length++;
                }
            }
        }
    }

    /**
     * A text cut into tokens, with END behind the last one. A sign's kind is its own character, so
     * the kinds of the other tokens lie above all characters; a character that is no sign needs no
     * kind either, since the reader has no place where it can stand.
     */
    private static final class Tokens {
        static final int END = 256;
        static final int WRONG = 257;
        static final int NUMBER = 258;
        static final int PAY = 259;
        static final int WHEN = 260;
        static final int AND = 261;
        static final int SUM = 262;
        static final int SLIPS = 263;
        static final int BACK = 264;
        static final int MONTH = 265;
        static final int MOST_DIGITS = 6;

        final int[] kinds;
        final int[] places;
        final int[] numbers;
        int tokenCount;

        Tokens() {
            kinds = new int[TAPE_ROOM + 1];
            places = new int[TAPE_ROOM + 1];
            numbers = new int[TAPE_ROOM + 1];
            tokenCount = 0;
        }

        void scan(byte[] text, int length) {
            int known = Math.min(length, text.length);
            int at = 0;
            tokenCount = 0;
            for (int n = 0; n < TAPE_ROOM && at < known; n++) {
                if (text[at] == ' ' || text[at] == '\n') {
                    at++;
                } else {
                    at = scanToken(text, at, known);
                }
            }
            add(END, known, 0);
        }

        /** Answers the place behind the token that begins at a place of the text. */
        private int scanToken(byte[] text, int at, int length) {
            int behind = at + 1;
            if (isLetter(text[at])) {
                while (behind < length && isLetter(text[behind])) {
                    behind++;
                }
                add(wordKind(text, at, behind), at, 0);
            } else if (isDigit(text[at])) {
                while (behind < length && isDigit(text[behind])) {
                    behind++;
                }
                int kind = behind - at <= MOST_DIGITS ? NUMBER : WRONG;
                add(kind, at, kind == NUMBER ? numberOf(text, at, behind) : 0);
            } else {
                add(text[at] & 255, at, 0);
            }
            return behind;
        }

        private void add(int kind, int place, int number) {
            if (tokenCount >= 0 && tokenCount <= TAPE_ROOM) {
                kinds[tokenCount] = kind;
                places[tokenCount] = place;
                numbers[tokenCount] = number;
                tokenCount++;
            }
        }

        private static boolean isLetter(int c) {
            return c >= 'a' && c <= 'z' || c >= 'A' && c <= 'Z';
        }

        private static boolean isDigit(int c) {
            return c >= '0' && c <= '9';
        }

        private static int numberOf(byte[] text, int from, int to) {
            int number = 0;
            for (int i = from; i < to && i < text.length; i++) {
                number = 10 * number + text[i] - '0';
            }
            return number;
        }

        private static int wordKind(byte[] text, int from, int to) {
            if (isWord("pay", text, from, to)) {
                return PAY;
            }
            if (isWord("when", text, from, to)) {
                return WHEN;
            }
            if (isWord("and", text, from, to)) {
                return AND;
            }
            if (isWord("sum", text, from, to)) {
                return SUM;
            }
            if (isWord("slips", text, from, to)) {
                return SLIPS;
            }
            if (isWord("back", text, from, to)) {
                return BACK;
            }
            return isWord("month", text, from, to) ? MONTH : WRONG;
        }

        private static boolean isWord(String word, byte[] text, int from, int to) {
            if (to - from != word.length() || from < 0 || to > text.length) {
                return false;
            }
            for (int i = from; i < to; i++) {
                if (text[i] != word.charAt(i - from)) {
                    return false;
                }
            }
            return true;
        }
    }

    /** Reads tokens from left to right, so the fault at which it stops is the first by its place. */
    private static final class RuleReader {
        static final int MISPLACED = 1;
        static final int PART_BY_ZERO = 2;
        static final int TOO_MANY = 3;

        final Tokens tokens;
        Rule target;
        int at;
        int fault;
        int place;

        RuleReader(Tokens tokens, Rule target) {
            this.tokens = tokens;
            this.target = target;
            this.at = 0;
            this.fault = 0;
            this.place = NONE;
        }

        boolean read(Rule spare) {
            if (spare != null) {
                target = spare;
            }
            target.clear();
            at = 0;
            fault = 0;
            place = NONE;
            for (int line = 0; line <= RULE_LINES; line++) {
                if (kind() == Tokens.END) {
                    return true;
                }
                if (!readLine(line)) {
                    return false;
                }
            }
            return false;
        }

        private boolean readLine(int line) {
            if (kind() != Tokens.PAY) {
                return fail(MISPLACED);
            }
            if (line >= RULE_LINES) {
                return fail(TOO_MANY);
            }
            at++;
            int payAt = target.stepCount;
            if (!readSum(0) || !pass(Tokens.WHEN)) {
                return false;
            }
            int whenAt = target.stepCount;
            if (!readCondition() || !pass(';')) {
                return false;
            }
            target.addLine(payAt, whenAt);
            return true;
        }

        private boolean readCondition() {
            for (int n = 0; n <= TAPE_ROOM; n++) {
                if (!readSum(0)) {
                    return false;
                }
                int sign = kind();
                if (sign != '<' && sign != '=' && sign != '>') {
                    return fail(MISPLACED);
                }
                at++;
                if (!readSum(0)) {
                    return false;
                }
                target.addStep(sign, 0);
                if (n > 0) {
                    target.addStep(Tokens.AND, 0);
                }
                if (kind() != Tokens.AND) {
                    return true;
                }
                at++;
            }
            return fail(MISPLACED);
        }

        private boolean readSum(int open) {
            if (!readTerm(open)) {
                return false;
            }
            for (int n = 0; n <= TAPE_ROOM; n++) {
                int sign = kind();
                if (sign != '+' && sign != '-') {
                    return true;
                }
                at++;
                if (!readTerm(open)) {
                    return false;
                }
                target.addStep(sign, 0);
            }
            return fail(MISPLACED);
        }

        private boolean readTerm(int open) {
            if (!readUnit(open)) {
                return false;
            }
            for (int n = 0; n <= TAPE_ROOM; n++) {
                int sign = kind();
                if (sign == '*') {
                    at++;
                    if (!readUnit(open)) {
                        return false;
                    }
                    target.addStep('*', 0);
                } else if (sign == '/') {
                    at++;
                    if (!readDivisor()) {
                        return false;
                    }
                } else {
                    return true;
                }
            }
            return fail(MISPLACED);
        }

        private boolean readDivisor() {
            if (kind() != Tokens.NUMBER) {
                return fail(MISPLACED);
            }
            if (number() == 0) {
                return fail(PART_BY_ZERO);
            }
            target.addStep('/', number());
            at++;
            return true;
        }

        private boolean readUnit(int open) {
            int unit = kind();
            if (unit == Tokens.NUMBER || unit >= Tokens.SUM && unit <= Tokens.MONTH) {
                target.addStep(unit, number());
                at++;
                return true;
            }
            if (unit != '(') {
                return fail(MISPLACED);
            }
            if (open >= MOST_OPEN) {
                return fail(TOO_MANY);
            }
            at++;
            if (!readSum(open + 1)) {
                return false;
            }
            if (kind() != ')') {
                return fail(MISPLACED);
            }
            at++;
            return true;
        }

        private boolean pass(int due) {
            if (kind() != due) {
                return fail(MISPLACED);
            }
            at++;
            return true;
        }

        private int kind() {
            return at >= 0 && at < tokens.tokenCount && at <= TAPE_ROOM ? tokens.kinds[at] : Tokens.END;
        }

        private int number() {
            return at >= 0 && at < tokens.tokenCount && at <= TAPE_ROOM ? tokens.numbers[at] : 0;
        }

        private boolean fail(int what) {
            fault = what;
            place = at >= 0 && at < tokens.tokenCount && at <= TAPE_ROOM ? tokens.places[at] : NONE;
            return false;
        }
    }

    /**
     * Lines of steps for a stack: a step is the kind of the token that asked for it, each sign
     * behind its two sides; '/' has its number with it.
     */
    private static final class Rule {
        final int[] steps;
        final int[] numbers;
        final int[] payAt;
        final int[] whenAt;
        final int[] endAt;
        final int[] stack;
        int stepCount;
        int lineCount;
        int height;

        Rule() {
            steps = new int[TAPE_ROOM];
            numbers = new int[TAPE_ROOM];
            payAt = new int[RULE_LINES];
            whenAt = new int[RULE_LINES];
            endAt = new int[RULE_LINES];
            stack = new int[STACK_ROOM];
            stepCount = 0;
            lineCount = 0;
            height = 0;
        }

        void clear() {
            stepCount = 0;
            lineCount = 0;
        }

        void addStep(int step, int number) {
            if (stepCount >= 0 && stepCount < TAPE_ROOM) {
                steps[stepCount] = step;
                numbers[stepCount] = number;
                stepCount++;
            }
        }

        void addLine(int payFrom, int whenFrom) {
            if (lineCount >= 0 && lineCount < RULE_LINES) {
                payAt[lineCount] = payFrom;
                whenAt[lineCount] = whenFrom;
                endAt[lineCount] = stepCount;
                lineCount++;
            }
        }

        int lineFor(Takings known) {
            for (int line = 0; line < lineCount && line < RULE_LINES; line++) {
                if (valueOf(whenAt[line], endAt[line], known) != 0) {
                    return line;
                }
            }
            return NONE;
        }

        int payFor(Takings known) {
            int line = lineFor(known);
            if (line < 0 || line >= RULE_LINES) {
                return 0;
            }
            return valueOf(payAt[line], whenAt[line], known);
        }

        private int valueOf(int from, int to, Takings known) {
            height = 0;
            for (int i = Math.max(from, 0); i < to && i < TAPE_ROOM; i++) {
                if (steps[i] == '/') {
                    push(part(pop(), numbers[i]));
                } else if (steps[i] == Tokens.NUMBER) {
                    push(numbers[i]);
                } else if (steps[i] >= Tokens.SUM) {
                    push(known.valueOfWord(steps[i]));
                } else {
                    int right = pop();
                    push(joined(steps[i], pop(), right));
                }
            }
            return pop();
        }

        private void push(int value) {
            if (height >= 0 && height < STACK_ROOM) {
                stack[height] = value;
                height++;
            }
        }

        private int pop() {
            if (height <= 0 || height > STACK_ROOM) {
                return 0;
            }
            height--;
            return stack[height];
        }

        private static int part(int whole, int divisor) {
            return divisor == 0 ? 0 : whole / divisor;
        }

        private static int joined(int sign, int left, int right) {
            switch (sign) {
                case '+': return left + right;
                case '-': return left - right;
                case '*': return left * right;
                case '<': return left < right ? 1 : 0;
                case '=': return left == right ? 1 : 0;
                case '>': return left > right ? 1 : 0;
                default: return left & right;
            }
        }
    }

    /** What a clerk took in a month. */
    private static final class Takings {
        int sum;
        int slipCount;
        int cameBack;
        int month;

        Takings() {
            sum = 0;
            slipCount = 0;
            cameBack = 0;
            month = 0;
        }

        void gather(ArrayList<Slip> slips, int clerk, int ofMonth) {
            sum = 0;
            slipCount = 0;
            cameBack = 0;
            month = ofMonth;
            for (int i = 0; i < slips.size(); i++) {
                Slip slip = slips.get(i);
                if (slip.clerk == clerk) {
                    addSlip(slip);
                }
            }
        }

        private void addSlip(Slip slip) {
            if (slip.wasSoldIn(month)) {
                sum += slip.worth;
                slipCount++;
            }
            if (slip.cameBackSoldIn(month)) {
                sum -= slip.worth;
                cameBack += slip.worth;
            }
        }

        int valueOfWord(int word) {
            switch (word) {
                case Tokens.SUM: return sum;
                case Tokens.SLIPS: return slipCount;
                case Tokens.BACK: return cameBack;
                default: return month;
            }
        }
    }

    private static final class Cuts {
        final int[] prices;
        final int[] wants;
        final int[] row;
        final int[] bestRow;
        int bestSum;
        int bestLeft;

        Cuts() {
            prices = new int[LEVELS];
            wants = new int[LEVELS];
            row = new int[MOST_WEEKS];
            bestRow = new int[MOST_WEEKS];
            bestSum = NONE;
            bestLeft = 0;
        }

        /** Goes through the rows of levels, the lesser first: only a greater sum takes the place. */
        void seek(int pieces, int weeks, int from) {
            int length = Math.min(weeks, MOST_WEEKS);
            bestSum = NONE;
            for (int w = 0; w < length; w++) {
                row[w] = from;
            }
            boolean more = true;
            for (int n = 0; n < MOST_ROWS && more; n++) {
                tryRow(pieces, length);
                more = stepRow(length);
            }
        }

        private void tryRow(int pieces, int weeks) {
            int left = pieces;
            int sum = 0;
            for (int w = 0; w < weeks && w < MOST_WEEKS; w++) {
                int level = row[w];
                if (level >= 0 && level < LEVELS) {
                    int gone = Math.min(wants[level], left);
                    left -= gone;
                    sum += gone * prices[level];
                }
            }
            if (sum > bestSum) {
                bestSum = sum;
                bestLeft = left;
                keepRow(weeks);
            }
        }

        private void keepRow(int weeks) {
            for (int w = 0; w < weeks && w < MOST_WEEKS; w++) {
                bestRow[w] = row[w];
            }
        }

        /** The next row by its levels, none less than the one ahead of it; false behind the last. */
        private boolean stepRow(int weeks) {
            int last = Math.min(weeks, MOST_WEEKS) - 1;
            for (int w = last; w >= 0; w--) {
                if (row[w] < LEVELS - 1) {
                    int level = row[w] + 1;
                    for (int v = w; v <= last; v++) {
                        row[v] = level;
                    }
                    return true;
                }
            }
            return false;
        }
    }
}
