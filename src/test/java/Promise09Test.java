/** Promise 9, law: v 0, 1; what it was; OUTSIDE. */
public final class Promise09Test {
    private Promise09Test() {
    }

    public static void main(String[] args) {
        whatItWas();
        outOfBounds();
        whatItDoes();
        whatItDoesNotDo();
        itStays();
        Check.end();
    }

    private static void whatItWas() {
        LowHeads x = new LowHeads();
        Check.due("9 0 at first", x.law(0), 0);
        Check.due("9 was 0", x.law(1), 0);
        Check.due("9 was 1", x.law(1), 1);
        Check.due("9 was 1 still", x.law(0), 1);
        Check.due("9 is 0", x.told(4), 0);
    }

    private static LowHeads byLaw0() {
        LowHeads x = Houses.livedIn();
        x.law(0);
        return x;
    }

    private static void outOfBounds() {
        Check.allRefused("9 behind 1", Check.outOf(0, 1), Houses::livedIn, v -> x -> x.law(v), LowHeads.OUTSIDE);
        Check.allRefused("9 behind 0", Check.outOf(0, 1), Promise09Test::byLaw0, v -> x -> x.law(v), LowHeads.OUTSIDE);
    }

    private static LowHeads three() {
        LowHeads x = Check.housed("room 0,0,0;person 50 60 9 0;person 40 40 9 0;person 30 50 9 0;");
        x.put(0, 0, 0);
        x.put(1, 0, 1);
        x.put(2, 0, 2);
        return x;
    }

    private static void whatItDoes() {
        LowHeads x = three();
        Check.due("9 law 0 is kept", x.first(0, 0), LowHeads.NONE);
        x.law(1);
        Check.due("9 law 1 is not", x.first(0, 0), 2);
        x.law(0);
        Check.due("9 law 0 is kept again", x.first(0, 0), LowHeads.NONE);
    }

    private static void whatItDoesNotDo() {
        Check.changesNothing("9 the law that is", Promise09Test::three, x -> x.law(0));
        LowHeads x = three();
        x.law(1);
        Check.due("9 nobody bows by it", x.person(2, 6), 0);
        Check.due("9 nobody goes by it", x.told(6), 7);
    }

    private static void itStays() {
        LowHeads x = three();
        x.law(1);
        x.empty();
        x.year(60);
        x.seed(3);
        x.drift(9);
        x.bow(0);
        x.tear();
        Check.due("9 over other calls", x.told(4), 1);
        x.house();
        Check.due("9 over a house", x.told(4), 1);
        Check.fed(x, "x").house();
        Check.due("9 over a fault", x.told(4), 1);
    }
}
