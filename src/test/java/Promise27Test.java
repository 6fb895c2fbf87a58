/** Promise 27, seed: v 0 .. 2147483647; what it was; OUTSIDE. */
public final class Promise27Test {
    private Promise27Test() {
    }

    public static void main(String[] args) {
        whatItWas();
        outside();
        itStays();
        nothingElseChanges();
        Check.end();
    }

    private static void whatItWas() {
        LowHeads x = new LowHeads();
        int was = 0;
        for (int v : new int[] {0, 1, 65535, 65536, 2147483646, 2147483647, 2147483647, 0, 5}) {
            Check.due("27 was", x.seed(v), was);
            was = v;
        }
    }

    private static void outside() {
        int[] below = {-1, -2, -65536, -1000000001, -2147483647, -2147483648};
        Check.allRefused("27 below 0", below, Houses::livedIn, v -> x -> x.seed(v), LowHeads.OUTSIDE);
        LowHeads x = Houses.livedIn();
        x.seed(-1);
        Check.due("27 as it was", x.seed(0), 4711);
    }

    private static void itStays() {
        LowHeads x = Houses.livedIn();
        x.year(1);
        x.empty();
        x.come(0, 0, 0);
        x.judge(0);
        x.tear();
        x.law(0);
        Check.due("27 over other calls", x.seed(9), 4711);
        x.house();
        Check.due("27 over a house", x.seed(8), 9);
        Check.fed(x, "?").house();
        Check.due("27 over a fault", x.seed(7), 8);
    }

    private static void nothingElseChanges() {
        Check.changesNothing("27 to and fro", Houses::livedIn, x -> x.seed(2147483647) + x.seed(4711));
    }
}
