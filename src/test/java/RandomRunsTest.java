import java.util.Random;

/** Runs of calls by a fixed seed, each answer compared with that of the slow oracle. */
public final class RandomRunsTest {
    private static final int RUNS = 2500;
    private static final int CALLS_OF_AN_OBJECT = 512;
    private static final int[] STRANGE = {-2147483648, 2147483647, -1000000001, -2, -1, 7, 64, 127, 256, 65536};

    private final Random random;
    private final LowHeads x = new LowHeads();
    private final Oracle o = new Oracle();
    private final StringBuilder told = new StringBuilder();
    private int calls = 0;
    private boolean good = true;

    private RandomRunsTest(long seed) {
        random = new Random(seed);
    }

    public static void main(String[] args) {
        int bad = 0;
        for (int run = 0; run < RUNS && bad < 3; run++) {
            RandomRunsTest one = new RandomRunsTest(run);
            one.goThrough();
            bad += one.good ? 0 : 1;
        }
        System.out.println(RUNS + " random runs, " + bad + " with a wrong answer");
        if (bad != 0) {
            System.exit(1);
        }
    }

    private void due(String call, int got, int want) {
        calls++;
        told.append(call).append(" -> ").append(got).append('\n');
        if (got != want) {
            good = false;
            System.out.println(told + "  due is " + want + "\n");
        }
    }

    private void goThrough() {
        int end = 60 + random.nextInt(CALLS_OF_AN_OBJECT - 140);
        while (calls < end && good) {
            boolean bare = o.told(0) == 0 || o.told(1) == 0;
            if (calls == 0 || random.nextInt(bare ? 8 : 150) == 0) {
                tellHouse();
            }
            oneCall();
        }
    }

    private void tellHouse() {
        String text = random.nextInt(4) == 0 ? faultyText() : houseText(random.nextInt(6) == 0 ? 60 : 0);
        int from = x.told(3);
        calls++;
        for (int i = 0; i < text.length() && good; i += 8) {
            int n = Math.min(8, text.length() - i);
            long bytes = random.nextInt();
            for (int k = 0; k < n; k++) {
                bytes = bytes << 8 | text.charAt(i + k) & 255;
            }
            due("feed " + n + " " + bytes, x.feed(n, bytes), o.feed(n, bytes));
        }
        due("house of " + from + " bytes and '" + text + "'", x.house(), o.house());
        due("fault", x.fault(), o.fault());
    }

    private int upTo(int most) {
        return random.nextInt(most + 1);
    }

    /** A number of bounds, or (one of so many times, 0: never) one that is out of them or too long. */
    private String number(int least, int most, int slips) {
        int n = least + upTo(most - least);
        if (slips == 0 || random.nextInt(slips) != 0) {
            return random.nextInt(9) == 0 && n < 10 ? "00" + n : String.valueOf(n);
        }
        return switch (random.nextInt(4)) {
            case 0 -> String.valueOf(most + 1);
            case 1 -> String.valueOf(Math.max(0, least - 1));
            case 2 -> String.valueOf(n) + " " + n;
            default -> "000" + n;
        };
    }

    private String houseText(int slips) {
        StringBuilder text = new StringBuilder();
        int rooms = random.nextInt(20) == 0 ? 0 : 1 + random.nextInt(slips == 0 ? 3 : 4);
        int steps = 1 + upTo(12);
        for (int r = 0; r < rooms; r++) {
            text.append(random.nextBoolean() ? "room " : "room").append(number(0, 40, slips));
            for (int i = upTo(slips == 0 ? 5 : 6); i > 0; i--) {
                text.append(',').append(number(0, 40 / steps, slips));
            }
            text.append(';');
        }
        int persons = random.nextInt(20) == 0 ? 0 : 1 + random.nextInt(slips == 0 ? 6 : 7);
        boolean stiff = random.nextBoolean();
        int young = random.nextBoolean() ? 30 : 99;
        boolean[] had = new boolean[100];
        for (int p = 0; p < persons; p++) {
            int age = upTo(young);
            while (had[age] && (slips == 0 || random.nextInt(slips) != 0)) {
                age = upTo(young);
            }
            had[age] = true;
            text.append("person ").append(age).append(' ').append(number(20, 90, slips)).append(' ');
            text.append(number(0, stiff ? 12 : 40, slips)).append(' ').append(number(0, 9, slips)).append(';');
        }
        for (int p = 0; p < persons; p++) {
            for (int q = 0; q < p + (slips == 0 ? 0 : 1); q++) {
                if (random.nextInt(text.length() > 350 ? 9 : 3) == 0) {
                    boolean turned = random.nextBoolean();
                    text.append("friends ").append(turned ? p : q).append(' ').append(turned ? q : p);
                    text.append(' ').append(number(1, random.nextBoolean() ? 3 : 99, slips)).append(';');
                }
            }
        }
        return text.toString();
    }

    /** A good text with some bytes put in, changed, taken away or doubled. */
    private String faultyText() {
        StringBuilder text = new StringBuilder(houseText(0));
        String pieces = "0123456789,; roompersonfriends;;,,   AZ`{/:\n\t\0\377";
        for (int k = 1 + random.nextInt(3); k > 0 && text.length() > 0; k--) {
            int i = random.nextInt(text.length());
            switch (random.nextInt(4)) {
                case 0 -> text.insert(i, pieces.charAt(random.nextInt(pieces.length())));
                case 1 -> text.setCharAt(i, pieces.charAt(random.nextInt(pieces.length())));
                case 2 -> text.deleteCharAt(i);
                default -> text.append(text.substring(i, Math.min(text.length(), i + random.nextInt(40))));
            }
        }
        return text.toString();
    }

    private int some(int most) {
        return random.nextInt(60) == 0 ? STRANGE[random.nextInt(STRANGE.length)] : random.nextInt(12) == 0 ? most + 1 : upTo(most);
    }

    private int person() {
        return some(Math.max(0, o.told(1) - 1));
    }

    private int room() {
        return some(Math.max(0, o.told(0) - 1));
    }

    private int place(int r) {
        int places = o.room(r, -1, 0);
        return some(places < 1 ? 5 : places - 1);
    }

    private int set() {
        return some((1 << o.told(1)) - 1);
    }

    private void oneCall() {
        int p = person(), q = person(), r = room(), i = place(r), set = set(), v;
        switch (random.nextInt(36)) {
            case 0 -> due("told " + (v = some(6)), x.told(v), o.told(v));
            case 1 -> due("room " + r + " " + i + " " + (v = some(1)), x.room(r, i, v), o.room(r, i, v));
            case 2 -> due("room " + r + " -1 " + (v = some(1)), x.room(r, -1, v), o.room(r, -1, v));
            case 3, 4 -> due("person " + p + " " + (v = some(7)), x.person(p, v), o.person(p, v));
            case 5 -> due("friends " + p + " " + q, x.friends(p, q), o.friends(p, q));
            case 6 -> due("law " + (v = some(1)), x.law(v), o.law(v));
            case 7, 8, 9, 10 -> due("put " + p + " " + r + " " + i, x.put(p, r, i), o.put(p, r, i));
            case 11 -> due("leave " + p, x.leave(p), o.leave(p));
            case 12, 13 -> due("bend " + p + " " + (v = some(Math.max(0, o.person(p, 2)))), x.bend(p, v), o.bend(p, v));
            case 14, 15 -> due("first " + r + " " + (v = some(1)), x.first(r, v), o.first(r, v));
            case 16 -> due("bow " + r, x.bow(r), o.bow(r));
            case 17 -> due("year " + (v = random.nextInt(9) == 0 ? some(60) : 1 + upTo(1)), x.year(v), o.year(v));
            case 18, 19, 20 -> due("come " + p + " " + r + " " + i, x.come(p, r, i), o.come(p, r, i));
            case 21 -> due("party " + r + " " + set + " -1", x.party(r, set, -1), o.party(r, set, -1));
            case 22 -> due("party " + r + " " + set + " " + p, x.party(r, set, p), o.party(r, set, p));
            case 23 -> due("feast " + set + " " + (v = -1 - upTo(2)), x.feast(set, v), o.feast(set, v));
            case 24 -> due("feast " + set + " " + p, x.feast(set, p), o.feast(set, p));
            case 25 -> due("cuts " + r + " " + set, x.cuts(r, set), o.cuts(r, set));
            case 26 -> due("till", x.till(), o.till());
            case 27, 28 -> due("seen " + r + " " + (v = some(1)), x.seen(r, v), o.seen(r, v));
            case 29 -> due("write " + p + " " + r + " " + i, x.write(p, r, i), o.write(p, r, i));
            case 30 -> due("judge " + (v = some(1)), x.judge(v), o.judge(v));
            case 31 -> due("drift " + (v = some(random.nextBoolean() ? 99 : 5)), x.drift(v), o.drift(v));
            case 32 -> due("keep " + (v = some(1)), x.keep(v), o.keep(v));
            case 33 -> due("goBack " + (v = some(1)), x.goBack(v), o.goBack(v));
            case 34 -> due("seed " + (v = random.nextInt()), x.seed(v), o.seed(v));
            default -> rareCall();
        }
    }

    private void rareCall() {
        switch (random.nextInt(9)) {
            case 0 -> due("empty", x.empty(), o.empty());
            case 1 -> due("tear", x.tear(), o.tear());
            case 2 -> {
                int n = random.nextInt(10) - 1;
                long bytes = random.nextLong();
                due("feed " + n + " " + bytes, x.feed(n, bytes), o.feed(n, bytes));
            }
            case 3 -> due("house", x.house(), o.house());
            default -> due("bow 0", x.bow(0), o.bow(0));
        }
    }
}
