/** Promise 21, seen: SUSPECTS by ages 0 .. 99 like nobody's there, HEELS by one inch; 0 both; UNKNOWN, OUTSIDE. */
public final class Promise21Test {
    private Promise21Test() {
    }

    public static void main(String[] args) {
        noFault();
        agesFrom0To99();
        agesOfThoseThere();
        agesOfThoseElsewhere();
        agesAbove99();
        oneGapAlone();
        suspectsByLaw();
        suspectsOfSix();
        heelsOfOneInch();
        heelsOfTwo();
        heelsByLaw();
        heelsOfSix();
        thatRoomAlone();
        refusals();
        Check.end();
    }

    /** Persons by rows of age and inches, all of them in room 0. */
    private static LowHeads there(int law, int[]... rows) {
        StringBuilder text = new StringBuilder("room 0,0,0,0,0,0;room 0,0;");
        for (int[] row : rows) {
            text.append("person ").append(row[0]).append(' ').append(row[1]).append(" 40 0;");
        }
        LowHeads x = Check.housed(text.toString());
        x.law(law);
        for (int p = 0; p < rows.length; p++) {
            x.put(p, 0, p);
        }
        return x;
    }

    private static int[] row(int age, int inches) {
        return new int[] {age, inches};
    }

    private static void isSeen(String what, LowHeads x, int suspects, int heels) {
        Check.due(what + ": suspects", x.seen(0, 0), suspects);
        Check.due(what + ": heels", x.seen(0, 1), heels);
    }

    private static void noFault() {
        for (int law = 0; law <= 1; law++) {
            isSeen("21 nobody", there(law), 0, 0);
            isSeen("21 one", there(law, row(50, 90)), 0, 0);
            isSeen("21 as high", there(law, row(50, 40), row(40, 40)), 0, 0);
            isSeen("21 one inch above", there(law, row(50, 40), row(40, 41)), 3, 2);
        }
    }

    private static void agesFrom0To99() {
        isSeen("21 the elder is 99", there(0, row(99, 40), row(50, 41)), 1, 2);
        isSeen("21 the elder is 98", there(0, row(98, 40), row(50, 41)), 3, 2);
        isSeen("21 the younger is 0", there(0, row(50, 40), row(0, 41)), 2, 2);
        isSeen("21 the younger is 1", there(0, row(50, 40), row(1, 41)), 3, 2);
        isSeen("21 99 and 0", there(0, row(99, 40), row(0, 41)), 0, 2);
        isSeen("21 98 and 0", there(0, row(98, 40), row(0, 41)), 2, 2);
        isSeen("21 99 and 1", there(0, row(99, 40), row(1, 41)), 1, 2);
    }

    private static void agesOfThoseThere() {
        isSeen("21 0 is taken", there(0, row(50, 40), row(1, 41), row(0, 20)), 2, 2);
        isSeen("21 0 is taken, 1 is free", there(0, row(50, 40), row(2, 41), row(0, 20)), 3, 2);
        isSeen("21 two ages are taken", there(0, row(50, 40), row(2, 41), row(0, 20), row(1, 20)), 2, 2);
        isSeen("21 99 is the eldest", there(0, row(99, 40), row(98, 40), row(50, 41)), 0, 4);
        for (int taken = 3; taken < 6; taken++) {
            int[][] rows = {row(60, 50), row(58, 40), row(10, 45), row(5, 22), row(4, 21), row(3, 20)};
            isSeen("21 59 is free", there(1, rows), 6, 0);
            rows[taken] = row(59, 48);
            isSeen("21 59 is person " + taken + "'s", there(1, rows), 2, 0);
        }
        isSeen("21 98 is the eldest", there(0, row(97, 40), row(98, 40), row(50, 41)), 4, 4);
    }

    private static void agesOfThoseElsewhere() {
        LowHeads x = there(0, row(50, 40), row(1, 41), row(0, 20));
        x.leave(2);
        isSeen("21 0 is nowhere", x, 3, 2);
        x.put(2, 1, 0);
        isSeen("21 0 is elsewhere", x, 3, 2);
        LowHeads y = there(0, row(98, 40), row(50, 41), row(99, 90));
        y.leave(2);
        isSeen("21 99 is nowhere", y, 3, 2);
    }

    private static void agesAbove99() {
        LowHeads x = there(0, row(98, 40), row(50, 41));
        isSeen("21 98", x, 3, 2);
        x.year(1);
        isSeen("21 99", x, 1, 2);
        x.year(1);
        isSeen("21 100", x, 1, 2);
        x.year(48);
        isSeen("21 148 and 100", x, 1, 2);
        LowHeads y = there(0, row(99, 40), row(0, 41));
        y.year(1);
        isSeen("21 100 and 1: the elder may be 0", y, 1, 2);
    }

    /** By law 1 the one too high fits between two others alone, if a year is free between them. */
    private static void oneGapAlone() {
        for (int gap = 1; gap <= 3; gap++) {
            LowHeads x = there(1, row(60, 50), row(60 - gap, 40), row(10, 45));
            isSeen("21 a gap of " + gap, x, gap == 1 ? 2 : 6, 0);
        }
        isSeen("21 nobody below 0", there(1, row(1, 50), row(2, 60), row(0, 55)), 0, 0);
    }

    private static void suspectsByLaw() {
        int[][] rows = {row(70, 60), row(40, 50), row(10, 55)};
        isSeen("21 law 0", there(0, rows), 0, 0);
        isSeen("21 law 1", there(1, rows), 6, 0);
        int[][] others = {row(70, 50), row(40, 60), row(10, 60)};
        isSeen("21 law 0, two too high", there(0, others), 7, 0);
        isSeen("21 law 1, two too high", there(1, others), 1, 0);
    }

    private static void suspectsOfSix() {
        isSeen("21 the eldest is the lowest", there(0, row(60, 40), row(10, 50), row(20, 49), row(30, 48), row(40, 47), row(50, 46)), 2, 0);
        isSeen("21 the last person", there(1, row(60, 50), row(50, 49), row(40, 48), row(30, 47), row(20, 46), row(10, 90)), 32, 0);
    }

    private static void heelsOfOneInch() {
        for (int above = 0; above <= 3; above++) {
            for (int law = 0; law <= 1; law++) {
                LowHeads x = there(law, row(50, 40), row(40, 40 + above));
                Check.due("21 heels of " + above, x.seen(0, 1), above == 1 ? 2 : 0);
            }
        }
        LowHeads x = there(0, row(50, 40), row(40, 45));
        x.bend(1, 4);
        Check.due("21 bends as they are", x.seen(0, 1), 2);
        x.bend(1, 3);
        Check.due("21 bends as they are", x.seen(0, 1), 0);
        x.bend(0, 1);
        x.bend(1, 5);
        Check.due("21 the elder bends", x.seen(0, 1), 2);
    }

    private static void heelsOfTwo() {
        int[][] rows = {row(50, 40), row(30, 41), row(20, 41)};
        isSeen("21 two of one inch, law 0", there(0, rows), 7, 0);
        isSeen("21 two of one inch, law 1", there(1, rows), 1, 0);
    }

    private static void heelsByLaw() {
        int[][] rows = {row(10, 41), row(90, 60), row(50, 40)};
        Check.due("21 law 0", there(0, rows).seen(0, 1), 0);
        Check.due("21 law 1", there(1, rows).seen(0, 1), 1);
        int[][] lower = {row(10, 41), row(90, 39), row(50, 39)};
        Check.due("21 law 1, by two", there(1, lower).seen(0, 1), 0);
    }

    private static void heelsOfSix() {
        for (int who = 0; who < 6; who++) {
            for (int law = 0; law <= 1; law++) {
                int[][] rows = new int[6][];
                for (int p = 0; p < 6; p++) {
                    rows[p] = row(p == (who + 1) % 6 ? 99 : 10 + p, p == who ? 41 : 40);
                }
                LowHeads x = there(law, rows);
                Check.due("21 heels of " + who, x.seen(0, 1), 1 << who);
            }
        }
    }

    private static void thatRoomAlone() {
        LowHeads x = there(0, row(50, 40), row(40, 41), row(90, 40), row(80, 41));
        x.leave(2);
        x.leave(3);
        x.put(2, 1, 0);
        Check.due("21 no fault elsewhere", x.seen(1, 0), 0);
        x.put(3, 1, 1);
        Check.due("21 room 0", x.seen(0, 0), 3);
        Check.due("21 room 1", x.seen(1, 0), 12);
        Check.due("21 heels of room 1", x.seen(1, 1), 8);
        LowHeads y = Check.housed("room 0,0;room 0;room 1,0,2;person 50 40 9 0;person 40 39 9 0;person 30 40 9 0;");
        y.put(0, 2, 0);
        y.put(1, 2, 2);
        y.put(2, 2, 1);
        Check.due("21 lawful in the last room", y.seen(2, 0), 0);
        y.bend(0, 1);
        Check.due("21 suspects of the last room", y.seen(2, 0), 3);
        Check.due("21 heels of the last room", y.seen(2, 1), 2);
    }

    private static void refusals() {
        for (int r : Check.outOf(0, 2)) {
            Check.refused("21 room " + r, Houses::livedIn, x -> x.seen(r, 0), LowHeads.UNKNOWN);
            Check.refused("21 room " + r + " ahead of what", Houses::livedIn, x -> x.seen(r, 2), LowHeads.UNKNOWN);
        }
        Check.allRefused("21 what, a fault", Check.outOf(0, 1), Houses::livedIn, n -> x -> x.seen(0, n), LowHeads.OUTSIDE);
        Check.allRefused("21 what, no fault", Check.outOf(0, 1), Houses::livedIn, n -> x -> x.seen(1, n), LowHeads.OUTSIDE);
        Check.changesNothing("21 suspects", Houses::livedIn, x -> x.seen(0, 0));
        Check.changesNothing("21 heels", Houses::livedIn, x -> x.seen(0, 1));
    }
}
