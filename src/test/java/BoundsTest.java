import java.util.Random;

/** Each sentence of the document that names a bound, at the bound and one beyond it. */
public final class BoundsTest {
    private static final int[] ODD = {Integer.MIN_VALUE, -1000001, -2, -1, 0, 1, 2, 3, 7, 8, 19, 20, 99, 100, 119, 120,
        363, 364, 400, 401, 500, 999, 1000, 1363, 9999, 10000, 1000000, Integer.MAX_VALUE};
    private static final String[] FACE = {"thing 2", "tag 2", "of 2", "next 0", "slip 7", "paper 2", "back 1", "look 1",
        "van 1", "house 1", "feed 5", "end 1", "rule 0", "fault 1", "pay 3", "statement 3", "count 2", "level 3", "best 4"};

    private BoundsTest() {
    }

    public static void main(String[] args) throws Exception {
        GoodsBounds.all();
        SlipBounds.all();
        VanBounds.all();
        RuleBounds.all();
        PayBounds.all();
        CutBounds.all();
        neverThrows();
        Sentences.check();
        Check.finish();
    }

    /** LANGUAGE.md, 7: no call may ever throw, for any arguments in any state; nor behind the 512th call. */
    private static void neverThrows() {
        Random random = new Random(7);
        for (int run = 0; run < 300; run++) {
            GreatStore x = new GreatStore();
            for (Call call : Call.all(run % 2 == 0 ? Bound.STORE : new String[0])) {
                call.on(x);
            }
            for (int n = 0; n < 2000; n++) {
                anyCall(random).on(x);
            }
        }
    }

    private static Call anyCall(Random random) {
        String[] face = FACE[random.nextInt(FACE.length)].split(" ");
        StringBuilder words = new StringBuilder(face[0]);
        for (int i = Integer.parseInt(face[1]); i > 0; i--) {
            words.append(' ').append(random.nextInt(4) == 0 ? ODD[random.nextInt(ODD.length)] : random.nextInt(10) - 1);
        }
        return Call.one(words.toString());
    }
}
