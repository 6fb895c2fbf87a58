/** Promise 29, goBack: what is so becomes IMAGE i: 1; UNKNOWN, NOT: it was not kept. */
public final class Promise29Test {
    private Promise29Test() {
    }

    public static void main(String[] args) {
        eachThingKept();
        whatIsNotKept();
        again();
        theImageStays();
        unknown();
        notKept();
        goneByAHouse();
        goesOnFromThere();
        Check.end();
    }

    private static LowHeads changed() {
        LowHeads x = Houses.livedIn();
        x.keep(1);
        return x;
    }

    private static void eachThingKept() {
        Check.changesNothing("29 where all are", Promise29Test::changed, x -> x.leave(0) + x.put(1, 2, 0) + x.goBack(1));
        Check.changesNothing("29 all out", Promise29Test::changed, x -> x.empty() + x.goBack(1));
        Check.changesNothing("29 bends", Promise29Test::changed, x -> x.bend(3, 0) + x.bend(2, 1) + x.goBack(1));
        Check.changesNothing("29 ages and inches", Promise29Test::changed, x -> x.year(9) + x.goBack(1));
        Check.changesNothing("29 law", Promise29Test::changed, x -> x.law(0) + x.goBack(1));
        Check.changesNothing("29 the seed", Promise29Test::changed, x -> x.seed(3) + x.goBack(1));
        Check.changesNothing("29 comings", Promise29Test::changed, x -> x.come(4, 0, 0) + x.goBack(1));
        LowHeads x = Houses.livedIn();
        Check.due("29 back", x.goBack(0), 1);
        Check.due("29 who is where", x.told(6), 9);
        Check.due("29 place", x.person(3, 5), 4);
        Check.due("29 bend", x.person(3, 6), 2);
        Check.due("29 age", x.person(2, 0), 12);
        Check.due("29 inches", x.person(2, 1), 50);
        Check.due("29 law of then", x.told(4), 0);
        Check.due("29 who was nowhere", x.person(5, 6), 0);
    }

    private static void whatIsNotKept() {
        LowHeads x = Houses.livedIn();
        x.write(5, 0, 0);
        x.feed(1, ' ');
        x.goBack(0);
        Check.due("29 the book", x.told(5), 3);
        Check.due("29 the text", x.told(3), 8);
        Check.due("29 the fault", x.fault(), 7);
        x.tear();
        x.goBack(0);
        Check.due("29 a torn book", x.told(5), 0);
    }

    private static void again() {
        Check.changesNothing("29 back again", () -> {
            LowHeads x = Houses.livedIn();
            x.goBack(0);
            return x;
        }, x -> x.year(3) + x.empty() + x.goBack(0));
    }

    private static void theImageStays() {
        LowHeads x = Houses.big();
        x.keep(0);
        x.goBack(0);
        x.put(0, 0, 0);
        x.bend(0, 5);
        x.year(60);
        Check.due("29 back once more", x.goBack(0), 1);
        Check.due("29 nobody is anywhere", x.told(6), 0);
        Check.due("29 no bend", x.person(0, 6), 0);
        Check.due("29 no year", x.person(0, 0), 70);
    }

    private static void unknown() {
        Check.allRefused("29 image", Check.outOf(0, 1), Houses::livedIn, i -> x -> x.goBack(i), LowHeads.UNKNOWN);
        Check.allRefused("29 unknown ahead of not", Check.outOf(0, 1), LowHeads::new, i -> x -> x.goBack(i), LowHeads.UNKNOWN);
    }

    private static LowHeads keptOne(int i) {
        LowHeads x = Houses.big();
        x.put(0, 0, 0);
        x.keep(i);
        x.put(1, 0, 1);
        return x;
    }

    private static void notKept() {
        Check.refused("29 image 1", Houses::livedIn, x -> x.goBack(1), LowHeads.NOT);
        Check.refused("29 image 0, only 1", () -> keptOne(1), x -> x.goBack(0), LowHeads.NOT);
        Check.refused("29 image 1, only 0", () -> keptOne(0), x -> x.goBack(1), LowHeads.NOT);
        Check.refused("29 image 0 of a house", Houses::big, x -> x.goBack(0), LowHeads.NOT);
        Check.refused("29 image 1 of nothing", LowHeads::new, x -> x.goBack(1), LowHeads.NOT);
    }

    private static void goneByAHouse() {
        for (int i = 0; i <= 1; i++) {
            LowHeads x = keptOne(i);
            Check.fed(x, "room ?").house();
            Check.due("29 there behind a fault", x.goBack(i), 1);
            Check.due("29 as it was", x.told(6), 1);
            Check.fed(x, Houses.BIG).house();
            Check.due("29 gone behind a house", x.goBack(i), LowHeads.NOT);
            x.keep(i);
            Check.due("29 kept again", x.goBack(i), 1);
            x.house();
            Check.due("29 gone behind an empty text", x.goBack(i), LowHeads.NOT);
        }
    }

    private static void goesOnFromThere() {
        LowHeads x = Houses.big();
        x.seed(5);
        x.keep(0);
        int moves = x.drift(50);
        String then = Check.picture(x);
        x.drift(7);
        x.goBack(0);
        Check.due("29 the same evening", x.drift(50), moves);
        Check.same("29 ends the same", Check.picture(x), then);
    }
}
