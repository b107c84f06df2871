import java.util.ArrayList;
import java.util.List;

/** One sentence of the document that names a bound, and the run of calls by which it is tested. */
final class Bound {
    /** A store with something of everything, so that a refused call has something to spoil. */
    static final String[] STORE = {
        "level 0 100 2", "level 1 50 5", "level 2 60 4", "level 3 10 90",
        "thing 10 500", "2 next", "thing 20 300", "tag 0 15", "tag 0 12", "next", "count 0 490",
        "slip 0 1 -1 0 3 4 2", "slip 1 2 3 0 2 5 3", "slip 2 1 3 1 4 -1 3", "slip 2 3 4 0 6 7 3", "slip 1 1 4 1 1 8 2",
        "van 4", "back 1",
        "text pay sum/10 when slips>0;", "rule", "text pay 1 when", "rule", "text pay 9 when 1=1;",
    };

    /** Nothing is promised of an object behind so many calls. */
    private static final int MOST_CALLS = 512;
    private static final int LOW = Integer.MIN_VALUE;
    private static final int HIGH = Integer.MAX_VALUE;

    private final String name;
    private final List<Call> told = new ArrayList<>();
    private GreatStore live = new GreatStore();

    Bound(int promise, String sentence) {
        Sentences.quote(promise, sentence);
        name = "promise " + promise + ", \"" + sentence + "\": ";
    }

    /** Begins again with a new object and these calls. */
    Bound anew(String... words) {
        told.clear();
        live = new GreatStore();
        return then(words);
    }

    Bound then(String... words) {
        for (Call call : Call.all(words)) {
            keep(call);
        }
        return this;
    }

    /** The call has that answer; if it is one that changes something, the run goes on behind it. */
    Bound due(String words, long want) {
        Call call = Call.one(words);
        if (call.isQuestion()) {
            return would(words, want);
        }
        Check.due(name + call, keep(call), want);
        return this;
    }

    /** The call would have that answer; the run goes on as if it had not been. */
    Bound would(String words, long want) {
        Check.due(name + words, Call.one(words).on(again()), want);
        return this;
    }

    /** The least and the greatest that can be for # have that answer. */
    Bound inside(String words, int least, int most, long want) {
        return would(with(words, least), want).would(with(words, most), want);
    }

    /** What is one beyond the least or the greatest for #, or far from them, is refused. */
    Bound outside(String words, int least, int most) {
        for (int beyond : new int[] {least - 1, most + 1, LOW, HIGH}) {
            refused(with(words, beyond));
        }
        return this;
    }

    /** The call is refused, and nothing is done: all else answers as ahead of it. */
    Bound refused(String... several) {
        for (String words : several) {
            Call call = Call.one(words);
            would(words, call.refusal());
            sameBeforeAndBehind(List.of(call), questions());
            for (List<Call> more : goingOn()) {
                sameWithAndWithout(call, more);
            }
        }
        return this;
    }

    /** The text has that fault at that place, the rule stays, the tape is empty, and nothing else is done. */
    Bound faulty(String text, int fault, int place) {
        List<Call> telling = Call.all("text " + text, "rule");
        GreatStore x = again();
        long lines = 0;
        for (Call call : telling) {
            lines = call.on(x);
        }
        Check.due(name + "rule of " + text, lines, GreatStore.NONE);
        Check.due(name + "fault of " + text, x.fault(0), fault);
        Check.due(name + "place in " + text, x.fault(1), place);
        Check.due(name + "tape behind " + text, x.end(1), false);
        List<Call> questions = questions();
        questions.removeIf(call -> call.isAbout("fault"));
        sameBeforeAndBehind(telling, questions);
        return this;
    }

    /** The text is a rule of so many lines, by which a clerk without slips is paid that in month 0. */
    Bound pays(String text, int lines, int pay) {
        anew("text " + text).due("rule", lines).due("look 6", lines).due("pay 0 0 3", pay);
        return due("fault 0", 0).due("fault 1", GreatStore.NONE).would("end 1", 0);
    }

    private static String with(String words, int value) {
        return words.replace("#", String.valueOf(value));
    }

    private long keep(Call call) {
        told.add(call);
        if (told.size() > MOST_CALLS) {
            throw new IllegalStateException(name + "more calls than are promised");
        }
        return call.on(live);
    }

    private GreatStore again() {
        GreatStore x = new GreatStore();
        for (Call call : told) {
            call.on(x);
        }
        return x;
    }

    private void sameBeforeAndBehind(List<Call> between, List<Call> questions) {
        int room = (MOST_CALLS - told.size() - between.size()) / 2;
        for (int from = 0; from < questions.size(); from += room) {
            List<Call> some = questions.subList(from, Math.min(questions.size(), from + room));
            GreatStore x = again();
            long[] before = answers(x, some);
            answers(x, between);
            due(some, between.get(between.size() - 1), answers(x, some), before);
        }
    }

    private void sameWithAndWithout(Call refused, List<Call> more) {
        List<Call> some = more.subList(0, Math.min(more.size(), MOST_CALLS - told.size() - 1));
        GreatStore with = again();
        refused.on(with);
        due(some, refused, answers(with, some), answers(again(), some));
    }

    private static long[] answers(GreatStore x, List<Call> calls) {
        long[] answers = new long[calls.size()];
        for (int i = 0; i < answers.length; i++) {
            answers[i] = calls.get(i).on(x);
        }
        return answers;
    }

    private void due(List<Call> calls, Call behind, long[] got, long[] want) {
        for (int i = 0; i < got.length; i++) {
            Check.due(name + calls.get(i) + " behind " + behind, got[i], want[i]);
        }
    }

    /** All that can be asked of the store without changing it. */
    private List<Call> questions() {
        GreatStore x = again();
        int today = x.look(0);
        int things = x.look(1);
        int slips = x.look(2);
        List<String> words = new ArrayList<>();
        add(words, "look #", 0, 6);
        for (int t = 0; t < things; t++) {
            add(words, "of " + t + " #", 0, 3);
            add(words, "of " + t + " #", 1000, 1000 + today);
        }
        for (int i = 0; i < slips; i++) {
            add(words, "paper " + i + " #", 0, 6);
        }
        add(words, "house #", 0, 19);
        add(words, "fault #", 0, 1);
        for (int month = 0; month <= 12; month++) {
            for (int clerk = 0; clerk <= 7; clerk++) {
                add(words, "pay " + clerk + " " + month + " #", 0, 4);
            }
            for (int account = 0; account <= 9; account++) {
                add(words, "statement " + account + " " + month + " #", Math.max(0, today - 30), today);
            }
        }
        for (int level = 0; level <= 3; level++) {
            add(words, "best 200 8 " + level + " #", 0, 1);
            add(words, "best 200 8 " + level + " #", 10, 17);
            add(words, "best # 3 " + level + " 0", 1, 20);
        }
        return Call.all(words.toArray(new String[0]));
    }

    /** Runs that bring to light what can't be asked: the tape, and what would come of the next changes. */
    private List<List<Call>> goingOn() {
        GreatStore x = again();
        int today = x.look(0);
        int things = x.look(1);
        int slips = x.look(2);
        List<List<Call>> runs = new ArrayList<>();
        for (int from = 401; from > 0; from -= 100) {
            List<String> ends = new ArrayList<>();
            for (int n = from; n > from - 100 && n >= 0; n--) {
                ends.add("end " + n);
            }
            runs.add(Call.all(ends.toArray(new String[0])));
        }
        String blanks = "feed 538976288 538976288 538976288 538976288 538976288";
        runs.add(Call.all("rule", "fault 0", "fault 1", "look 6", "pay 1 0 3", "pay 7 12 3", blanks));
        runs.add(Call.all(blanks, blanks, "rule", "fault 0", "fault 1", "look 6", "pay 1 0 3", "pay 7 12 3"));
        List<String> words = new ArrayList<>(List.of("van 7", "look 5", "van 500", "look 5", "look 4", "van 500"));
        add(words, "house #", 0, 19);
        add(words, "paper # 6", 0, slips - 1);
        runs.add(Call.all(words.toArray(new String[0])));
        words.clear();
        words.addAll(List.of("thing 7 9", "look 1", "thing 8 9", "thing 9 9"));
        add(words, "slip 2 0 0 # 1 3 " + today, 0, things);
        add(words, "tag # 13", 0, things);
        add(words, "count # 3", 0, things);
        add(words, "of # 3", 0, things);
        runs.add(Call.all(words.toArray(new String[0])));
        runs.add(days(7, slips));
        runs.add(days(28, slips));
        return runs;
    }

    private static List<Call> days(int n, int slips) {
        List<String> words = new ArrayList<>(List.of("look 3", n + " next", "look 3", "look 4", "van 500", "look 5"));
        add(words, "paper # 4", 0, slips - 1);
        add(words, "back #", 0, slips - 1);
        add(words, "of # 1", 0, 11);
        return Call.all(words.toArray(new String[0]));
    }

    private static void add(List<String> words, String call, int least, int most) {
        for (int v = least; v <= most; v++) {
            words.add(with(call, v));
        }
    }
}
