import java.util.function.Supplier;
import java.util.function.ToIntFunction;

/** What the project's tests share: counting wrong answers, texts, and pictures of a state. */
final class Check {
    private static int wrong = 0;
    private static int asked = 0;

    private Check() {
    }

    static void due(String what, long got, long want) {
        asked++;
        if (got != want) {
            wrong++;
            System.out.println(what + ": answered " + got + ", due is " + want);
        }
    }

    static void same(String what, String got, String want) {
        asked++;
        if (!got.equals(want)) {
            wrong++;
            System.out.println(what + ": is " + got + ", due is " + want);
        }
    }

    /** A call on a new object answers the refusal, and all that can be asked stays as it was. */
    static void refused(String what, Supplier<LowHeads> made, ToIntFunction<LowHeads> call, int want) {
        LowHeads x = made.get();
        String ahead = picture(x);
        due(what, call.applyAsInt(x), want);
        same(what + " changes nothing", picture(x), ahead);
    }

    static void end() {
        System.out.println(asked + " answers asked, " + wrong + " not as due");
        if (wrong != 0) {
            System.exit(1);
        }
    }

    static LowHeads fed(LowHeads x, String text) {
        for (int i = 0; i < text.length(); i += 8) {
            int n = Math.min(8, text.length() - i);
            long bytes = 0;
            for (int k = 0; k < n; k++) {
                bytes = bytes << 8 | text.charAt(i + k) & 255;
            }
            due("feed of '" + text + "'", x.feed(n, bytes), x.told(3));
        }
        return x;
    }

    static LowHeads housed(String text) {
        LowHeads x = fed(new LowHeads(), text);
        int persons = x.house();
        due("fault of '" + text + "'", x.fault(), LowHeads.NONE);
        due("persons of '" + text + "'", persons, x.told(1));
        return x;
    }

    /** All that can be asked without a change, as a text (the seed is set back). */
    static String picture(LowHeads x) {
        StringBuilder all = new StringBuilder();
        for (int what = 0; what <= 6; what++) {
            all.append(x.told(what)).append(' ');
        }
        for (int r = 0; r < x.told(0); r++) {
            all.append("| ");
            for (int i = 0; i < x.room(r, LowHeads.NONE, 0); i++) {
                all.append(x.room(r, i, 0)).append(':').append(x.room(r, i, 1)).append(' ');
            }
        }
        for (int p = 0; p < x.told(1); p++) {
            all.append("| ");
            for (int what = 0; what <= 7; what++) {
                all.append(x.person(p, what)).append(' ');
            }
        }
        int seed = x.seed(0);
        x.seed(seed);
        all.append("| ").append(seed).append(' ').append(x.fault());
        all.append(' ').append(x.judge(0)).append(' ').append(x.judge(1));
        return all.toString();
    }
}
