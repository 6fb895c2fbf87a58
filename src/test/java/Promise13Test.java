/** Promise 13, first: the least PERSON whose HEAD is too high by LAW, by how much; NONE; UNKNOWN, OUTSIDE. */
public final class Promise13Test {
    /** Persons 0 to 5, all of 50 inches, with ages of 30, 60, 90, 40, 50 and 20: 2 is the eldest, then 1, 4, 3, 0, 5. */
    private static final String HOUSE = "room 0,0,0,0,0,0;room 0,0;person 30 50 40 0;person 60 50 40 0;person 90 50 40 0;"
        + "person 40 50 40 0;person 50 50 40 0;person 20 50 40 0;";

    private Promise13Test() {
    }

    public static void main(String[] args) {
        nobodyOrOne();
        asHighIsLawful();
        law0AsksTheEldestAlone();
        law1AsksAllOlder();
        theMostOfThose();
        theLeastPerson();
        theLastPerson();
        theEldestIsNeverTooHigh();
        floorsCount();
        otherRooms();
        headsBelowNothing();
        refusals();
        Check.end();
    }

    /** Persons with their heads, in room 0: 50 less a bend. */
    private static LowHeads heads(int law, int... personsAndHeads) {
        LowHeads x = Check.housed(HOUSE);
        x.law(law);
        for (int k = 0; k < personsAndHeads.length; k += 2) {
            x.put(personsAndHeads[k], 0, k / 2);
            x.bend(personsAndHeads[k], 50 - personsAndHeads[k + 1]);
        }
        return x;
    }

    private static void isFirst(String what, LowHeads x, int p, int by) {
        Check.due(what + ": who", x.first(0, 0), p);
        Check.due(what + ": by", x.first(0, 1), by);
    }

    private static void isLawful(String what, LowHeads x) {
        isFirst(what, x, LowHeads.NONE, LowHeads.NONE);
    }

    private static void nobodyOrOne() {
        for (int law = 0; law <= 1; law++) {
            isLawful("13 nobody", heads(law));
            for (int p = 0; p < 6; p++) {
                isLawful("13 one", heads(law, p, 50));
                isLawful("13 one, bent", heads(law, p, 10));
            }
        }
    }

    private static void asHighIsLawful() {
        for (int law = 0; law <= 1; law++) {
            isLawful("13 one below", heads(law, 2, 40, 0, 39));
            isLawful("13 as high", heads(law, 2, 40, 0, 40));
            isFirst("13 one above", heads(law, 2, 40, 0, 41), 0, 1);
            isFirst("13 ten above", heads(law, 2, 40, 0, 50), 0, 10);
        }
    }

    private static void law0AsksTheEldestAlone() {
        isLawful("13 law 0, above one older", heads(0, 2, 50, 1, 40, 0, 50));
        isLawful("13 law 0, far above one older", heads(0, 2, 50, 1, 10, 4, 50, 3, 49, 0, 48, 5, 50));
        isFirst("13 law 0, above the eldest", heads(0, 2, 45, 1, 10, 0, 46), 0, 1);
        isFirst("13 law 0, without the eldest of all", heads(0, 1, 40, 0, 41), 0, 1);
    }

    private static void law1AsksAllOlder() {
        isLawful("13 law 1, as high as one older", heads(1, 2, 50, 1, 40, 0, 40));
        isFirst("13 law 1, one above one older", heads(1, 2, 50, 1, 40, 0, 41), 0, 1);
        isFirst("13 law 1, the youngest", heads(1, 2, 50, 1, 49, 4, 48, 3, 47, 0, 46, 5, 47), 5, 1);
        isLawful("13 law 1, all lower", heads(1, 2, 50, 1, 49, 4, 48, 3, 47, 0, 46, 5, 45));
        isLawful("13 law 1, above the younger alone", heads(1, 0, 50, 5, 10));
    }

    private static void theMostOfThose() {
        isFirst("13 law 1, the eldest is the lowest", heads(1, 2, 30, 1, 30, 4, 30, 0, 41), 0, 11);
        isFirst("13 law 1, the next is the lowest", heads(1, 2, 40, 1, 30, 0, 41), 0, 11);
        isFirst("13 law 1, the last ahead is the lowest", heads(1, 2, 40, 1, 39, 3, 30, 0, 41), 0, 11);
        isFirst("13 law 1, above one, below another", heads(1, 2, 50, 1, 30, 0, 31), 0, 1);
        isFirst("13 law 0, above the eldest by less", heads(0, 2, 40, 1, 30, 0, 41), 0, 1);
    }

    private static void theLeastPerson() {
        for (int law = 0; law <= 1; law++) {
            isFirst("13 the least, not the highest", heads(law, 2, 30, 1, 50, 0, 31), 0, 1);
            isFirst("13 the next, once that one bends", heads(law, 2, 30, 1, 50, 0, 30), 1, 20);
            isFirst("13 the least, not the eldest of them", heads(law, 2, 30, 4, 40, 3, 50), 3, 20);
        }
    }

    private static void theLastPerson() {
        isFirst("13 person 5", heads(0, 2, 40, 5, 41), 5, 1);
        isFirst("13 person 5", heads(1, 2, 40, 5, 41), 5, 1);
        isFirst("13 the greatest difference of 50 inches", heads(1, 2, 10, 5, 50), 5, 40);
    }

    private static void theEldestIsNeverTooHigh() {
        for (int law = 0; law <= 1; law++) {
            isLawful("13 above all", heads(law, 2, 50, 1, 10, 4, 10, 3, 10, 0, 10, 5, 10));
        }
    }

    private static void floorsCount() {
        LowHeads x = Check.housed("room 0,40,39;person 50 90 0 0;person 90 20 40 0;");
        x.put(1, 0, 0);
        x.put(0, 0, 1);
        isFirst("13 the greatest floor and inches", x, 0, 110);
        x.bend(1, 40);
        isFirst("13 the greatest of all", x, 0, 150);
        x.leave(0);
        x.put(0, 0, 2);
        isFirst("13 one inch of floor less", x, 0, 149);
    }

    private static void otherRooms() {
        LowHeads x = Check.housed(HOUSE);
        x.put(2, 1, 0);
        x.bend(2, 40);
        x.put(1, 0, 0);
        x.put(0, 0, 1);
        isLawful("13 an elder elsewhere", x);
        Check.due("13 the other room", x.first(1, 0), LowHeads.NONE);
        x.put(5, 1, 1);
        Check.due("13 a fault elsewhere", x.first(1, 0), 5);
        Check.due("13 by", x.first(1, 1), 40);
        isLawful("13 not here", x);
    }

    private static void headsBelowNothing() {
        LowHeads x = Check.housed("room 0,0;person 50 20 40 0;person 90 20 40 0;");
        x.put(0, 0, 0);
        x.put(1, 0, 1);
        x.bend(1, 40);
        x.bend(0, 39);
        isFirst("13 -19 above -20", x, 0, 1);
        x.bend(0, 40);
        isLawful("13 both at -20", x);
    }

    private static void refusals() {
        for (int r : Check.outOf(0, 2)) {
            Check.refused("13 room " + r, Houses::livedIn, x -> x.first(r, 0), LowHeads.UNKNOWN);
            Check.refused("13 room " + r + " ahead of what", Houses::livedIn, x -> x.first(r, 2), LowHeads.UNKNOWN);
        }
        Check.allRefused("13 what", Check.outOf(0, 1), Houses::livedIn, n -> x -> x.first(0, n), LowHeads.OUTSIDE);
        Check.allRefused("13 what, lawful", Check.outOf(0, 1), Houses::livedIn, n -> x -> x.first(1, n), LowHeads.OUTSIDE);
        Check.changesNothing("13 who", Houses::livedIn, x -> x.first(0, 0));
        Check.changesNothing("13 by how much", Houses::livedIn, x -> x.first(0, 1));
    }
}
