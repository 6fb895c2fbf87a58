import java.util.Arrays;
import java.util.LinkedHashMap;
import java.util.Map;
import java.util.function.Function;
import java.util.function.IntFunction;
import java.util.function.Supplier;
import java.util.function.ToIntFunction;
import java.util.stream.IntStream;

/** What the project's tests share: counting wrong answers, texts, and looks at a state. */
final class Check {
    private static final int[] FAR_OUT = {-2147483648, -1000000004, -1000000003, -1000000002, -1000000001,
        -65536, -256, -64, -32, 32, 64, 256, 65536, 1 << 30, 2147483647};
    private static final Map<String, Function<LowHeads, String>> LOOKS = looks();

    private static int wrong = 0;
    private static int asked = 0;

    private Check() {
    }

    static void due(String what, long got, long want) {
        asked++;
        if (got != want) {
            wrong++;
            System.out.println(what + ": answered " + got + ", due is " + want);
        }
    }

    static void same(String what, String got, String want) {
        asked++;
        if (!got.equals(want)) {
            wrong++;
            System.out.println(what + ": is " + got + ", due is " + want);
        }
    }

    /** A call answers the refusal, and nothing that can be asked later tells that it was made. */
    static void refused(String what, Supplier<LowHeads> made, ToIntFunction<LowHeads> call, int want) {
        due(what, call.applyAsInt(made.get()), want);
        changesNothing(what, made, call);
    }

    /** The same refusal for each of some numbers. */
    static void allRefused(String what, int[] numbers, Supplier<LowHeads> made, IntFunction<ToIntFunction<LowHeads>> call, int want) {
        for (int n : numbers) {
            refused(what + " of " + n, made, call.apply(n), want);
        }
    }

    static void changesNothing(String what, Supplier<LowHeads> made, ToIntFunction<LowHeads> call) {
        alike(what + " changes nothing", () -> {
            LowHeads x = made.get();
            call.applyAsInt(x);
            return x;
        }, made);
    }

    /** Whatever is asked of twins that are made in two ways, they answer alike. */
    static void alike(String what, Supplier<LowHeads> one, Supplier<LowHeads> other) {
        same(what + ": fault", String.valueOf(one.get().fault()), String.valueOf(other.get().fault()));
        alikeButForFault(what, one, other);
    }

    static void alikeButForFault(String what, Supplier<LowHeads> one, Supplier<LowHeads> other) {
        for (Map.Entry<String, Function<LowHeads, String>> look : LOOKS.entrySet()) {
            same(what + ": " + look.getKey(), look.getValue().apply(one.get()), look.getValue().apply(other.get()));
        }
    }

    /** One step on either side of the bounds, and numbers far away from them. */
    static int[] outOf(int least, int most) {
        IntStream near = IntStream.of(least - 1, most + 1);
        return IntStream.concat(near, Arrays.stream(FAR_OUT)).filter(n -> n < least || n > most).toArray();
    }

    static void end() {
        System.out.println(asked + " answers asked, " + wrong + " not as due");
        if (wrong != 0) {
            System.exit(1);
        }
    }

    /** The bytes of a text, at most eight of them, as a call of feed takes them. */
    static long bytes(String text) {
        long bytes = 0;
        for (int k = 0; k < text.length(); k++) {
            bytes = bytes << 8 | text.charAt(k) & 255;
        }
        return bytes;
    }

    static LowHeads fed(LowHeads x, String text) {
        int ahead = x.told(3);
        for (int i = 0; i < text.length(); i += 8) {
            String piece = text.substring(i, Math.min(text.length(), i + 8));
            due("feed of '" + text + "'", x.feed(piece.length(), bytes(piece)), ahead + i + piece.length());
        }
        return x;
    }

    static LowHeads housed(String text) {
        LowHeads x = fed(new LowHeads(), text);
        int persons = x.house();
        due("fault of '" + text + "'", x.fault(), LowHeads.NONE);
        due("persons of '" + text + "'", persons, x.told(1));
        return x;
    }

    /** Every look is taken on an object of its own, so that a look may change what it looks at. */
    private static Map<String, Function<LowHeads, String>> looks() {
        Map<String, Function<LowHeads, String>> all = new LinkedHashMap<>();
        all.put("what is so", Check::picture);
        all.put("image 0", x -> x.goBack(0) + " " + picture(x));
        all.put("image 1", x -> x.goBack(1) + " " + picture(x));
        all.put("the text", x -> x.house() + " " + x.fault() + " " + picture(x));
        all.put("parties", Check::pictureOfParties);
        return all;
    }

    /** All that can be asked without a change but for the fault, as a text (the seed is set back). */
    static String picture(LowHeads x) {
        StringBuilder all = new StringBuilder();
        for (int what = 0; what <= 6; what++) {
            all.append(x.told(what)).append(' ');
        }
        int rooms = x.told(0);
        int persons = x.told(1);
        for (int r = 0; r < rooms; r++) {
            all.append("| ");
            for (int i = 0; i < x.room(r, LowHeads.NONE, 0); i++) {
                all.append(x.room(r, i, 0)).append(':').append(x.room(r, i, 1)).append(' ');
            }
        }
        for (int p = 0; p < persons; p++) {
            all.append("| ");
            for (int what = 0; what <= 7; what++) {
                all.append(x.person(p, what)).append(' ');
            }
            for (int q = 0; q < p; q++) {
                all.append(x.friends(p, q)).append(' ');
            }
        }
        int seed = x.seed(0);
        x.seed(seed);
        all.append("| ").append(seed).append(' ').append(x.judge(0)).append(' ').append(x.judge(1));
        return all.toString();
    }

    private static String pictureOfParties(LowHeads x) {
        StringBuilder all = new StringBuilder();
        int everybody = (1 << x.told(1)) - 1;
        for (int r = 0; r < x.told(0); r++) {
            all.append("| ").append(x.first(r, 0)).append(' ').append(x.first(r, 1)).append(' ');
            all.append(x.seen(r, 0)).append(' ').append(x.seen(r, 1)).append(' ');
            for (int set = 0; set <= everybody; set += 3) {
                all.append(x.cuts(r, set)).append(' ').append(x.party(r, set, LowHeads.NONE)).append(' ');
            }
        }
        for (int p = -2; p < x.told(1); p++) {
            all.append(x.feast(everybody, p)).append(' ');
        }
        return all.append(x.till()).toString();
    }
}
