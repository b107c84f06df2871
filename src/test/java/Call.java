import java.nio.charset.StandardCharsets;
import java.util.ArrayList;
import java.util.List;
import java.util.Set;

/** A call told in words, such as "van 10", so that a run of calls can be told again to a new object. */
final class Call {
    private static final Set<String> QUESTIONS =
        Set.of("of", "paper", "look", "house", "fault", "pay", "statement", "best");
    private static final int NONE = -1;
    private static final int CANNOT = -1000001;

    private final String words;
    private final String name;
    private final int[] args;

    private Call(String words) {
        String[] parts = words.split(" ");
        this.words = words;
        name = parts[0];
        args = new int[parts.length - 1];
        for (int i = 0; i < args.length; i++) {
            args[i] = Integer.parseInt(parts[i + 1]);
        }
    }

    /** "28 next" is that call 28 times; "text " makes what stands behind it the whole of the tape. */
    static List<Call> all(String... told) {
        List<Call> calls = new ArrayList<>();
        for (String words : told) {
            int blank = words.indexOf(' ');
            if (words.startsWith("text ")) {
                addText(calls, words.substring(5));
            } else if (Character.isDigit(words.charAt(0))) {
                int times = Integer.parseInt(words.substring(0, blank));
                for (int i = 0; i < times; i++) {
                    calls.add(new Call(words.substring(blank + 1)));
                }
            } else {
                calls.add(new Call(words));
            }
        }
        return calls;
    }

    static Call one(String words) {
        return new Call(words);
    }

    private static void addText(List<Call> calls, String text) {
        byte[] bytes = text.getBytes(StandardCharsets.ISO_8859_1);
        calls.add(new Call("end 0"));
        for (int i = 0; i < bytes.length; i += 20) {
            StringBuilder feed = new StringBuilder("feed");
            for (int j = i; j < i + 20; j += 4) {
                feed.append(' ').append(Check.word(bytes, j));
            }
            calls.add(new Call(feed.toString()));
        }
        calls.add(new Call("end " + bytes.length));
    }

    boolean isQuestion() {
        return QUESTIONS.contains(name);
    }

    boolean isAbout(String other) {
        return name.equals(other);
    }

    /** What the document has the call answer where it refuses. */
    long refusal() {
        switch (name) {
            case "back": case "end": case "level": return 0;
            case "pay": case "statement": case "count": return CANNOT;
            default: return NONE;
        }
    }

    /** The answer; true counts 1, false 0. */
    long on(GreatStore x) {
        switch (name) {
            case "thing": return x.thing(args[0], args[1]);
            case "tag": return x.tag(args[0], args[1]);
            case "of": return x.of(args[0], args[1]);
            case "next": return x.next();
            case "slip": return x.slip(args[0], args[1], args[2], args[3], args[4], args[5], args[6]);
            case "paper": return x.paper(args[0], args[1]);
            case "back": return x.back(args[0]) ? 1 : 0;
            case "look": return x.look(args[0]);
            case "van": return x.van(args[0]);
            case "house": return x.house(args[0]);
            case "feed": return x.feed(args[0], args[1], args[2], args[3], args[4]);
            case "end": return x.end(args[0]) ? 1 : 0;
            case "rule": return x.rule();
            case "fault": return x.fault(args[0]);
            case "pay": return x.pay(args[0], args[1], args[2]);
            case "statement": return x.statement(args[0], args[1], args[2]);
            case "count": return x.count(args[0], args[1]);
            case "level": return x.level(args[0], args[1], args[2]) ? 1 : 0;
            case "best": return x.best(args[0], args[1], args[2], args[3]);
            default: throw new IllegalArgumentException("no such call: " + words);
        }
    }

    @Override
    public String toString() {
        return words;
    }
}
