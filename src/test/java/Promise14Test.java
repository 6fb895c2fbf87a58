/** Promise 14, bow: the least BENDS from the eldest on; who is too high still; UNKNOWN. */
public final class Promise14Test {
    private Promise14Test() {
    }

    public static void main(String[] args) {
        nobodyOrOne();
        kneesJustEnough();
        theLeastBend();
        theEldestStands();
        bentTooFarBefore();
        byLaw();
        byHeadsAsTheyAreThen();
        tooHighAndAhead();
        allButTheEldest();
        thatRoomAlone();
        refusals();
        Check.end();
    }

    private static void bends(String what, LowHeads x, int... due) {
        for (int p = 0; p < due.length; p++) {
            Check.due(what + ": bend of " + p, x.person(p, 6), due[p]);
        }
    }

    /** Floors of 0; persons by rows of age, inches and knees; all of them are put there. */
    private static LowHeads there(int law, int[]... persons) {
        StringBuilder text = new StringBuilder("room 0,0,0,0,0,0;");
        for (int[] p : persons) {
            text.append("person ").append(p[0]).append(' ').append(p[1]).append(' ').append(p[2]).append(" 0;");
        }
        LowHeads x = Check.housed(text.toString());
        x.law(law);
        for (int p = 0; p < persons.length; p++) {
            x.put(p, 0, p);
        }
        return x;
    }

    private static int[] row(int age, int inches, int knees) {
        return new int[] {age, inches, knees};
    }

    private static void nobodyOrOne() {
        Check.due("14 nobody", there(0).bow(0), 0);
        Check.due("14 nobody by law 1", there(1).bow(0), 0);
        LowHeads x = there(0, row(9, 90, 40));
        x.bend(0, 40);
        Check.due("14 one", x.bow(0), 0);
        bends("14 one", x, 0);
    }

    private static void kneesJustEnough() {
        for (int law = 0; law <= 1; law++) {
            for (int knees = 8; knees <= 12; knees++) {
                LowHeads x = there(law, row(90, 50, 0), row(50, 60, knees));
                Check.due("14 knees " + knees + " for 10", x.bow(0), knees < 10 ? 2 : 0);
                bends("14 knees " + knees + " for 10", x, 0, Math.min(knees, 10));
                Check.due("14 first behind it", x.first(0, 1), knees < 10 ? 10 - knees : LowHeads.NONE);
            }
            LowHeads none = there(law, row(90, 50, 0), row(50, 51, 0));
            Check.due("14 no knees for one inch", none.bow(0), 2);
            LowHeads all = there(law, row(90, 50, 0), row(50, 90, 40));
            Check.due("14 all knees", all.bow(0), 0);
            bends("14 all knees", all, 0, 40);
        }
    }

    private static void theLeastBend() {
        for (int inches = 48; inches <= 52; inches++) {
            LowHeads x = there(0, row(50, inches, 40), row(90, 50, 40));
            Check.due("14 inches " + inches, x.bow(0), 0);
            bends("14 inches " + inches, x, Math.max(0, inches - 50), 0);
        }
    }

    private static void theEldestStands() {
        for (int law = 0; law <= 1; law++) {
            LowHeads x = there(law, row(50, 50, 40), row(90, 40, 40));
            x.bend(1, 40);
            Check.due("14 the eldest was bent", x.bow(0), 0);
            bends("14 the eldest was bent", x, 10, 0);
        }
    }

    private static void bentTooFarBefore() {
        for (int law = 0; law <= 1; law++) {
            LowHeads x = there(law, row(90, 50, 0), row(50, 55, 40), row(30, 50, 40));
            x.bend(1, 40);
            x.bend(2, 40);
            Check.due("14 bent too far", x.bow(0), 0);
            bends("14 bent too far", x, 0, 5, 0);
        }
    }

    private static void byLaw() {
        int[][] due = {{0, 0, 0}, {0, 0, 5}};
        for (int law = 0; law <= 1; law++) {
            LowHeads x = there(law, row(90, 60, 0), row(50, 50, 9), row(30, 55, 9));
            Check.due("14 law " + law, x.bow(0), 0);
            bends("14 law " + law, x, due[law]);
        }
        LowHeads x = there(1, row(90, 60, 0), row(50, 50, 9), row(30, 55, 4));
        Check.due("14 law 1, knees are too few", x.bow(0), 4);
        bends("14 law 1, knees are too few", x, 0, 0, 4);
    }

    /** The next is as low as the eldest behind its own bow; the last bows to that, not to how high it was. */
    private static void byHeadsAsTheyAreThen() {
        for (int law = 0; law <= 1; law++) {
            LowHeads x = there(law, row(30, 61, 40), row(50, 70, 40), row(90, 60, 0));
            x.bend(1, 40);
            Check.due("14 as they are then", x.bow(0), 0);
            bends("14 as they are then", x, 1, 10, 0);
        }
        LowHeads x = there(1, row(90, 60, 0), row(50, 40, 40), row(30, 60, 40));
        x.bend(1, 40);
        Check.due("14 one that stands up ahead", x.bow(0), 0);
        bends("14 one that stands up ahead", x, 0, 0, 20);
    }

    private static void tooHighAndAhead() {
        for (int law = 0; law <= 1; law++) {
            LowHeads x = there(law, row(90, 60, 0), row(50, 70, 5), row(30, 64, 4));
            Check.due("14 one too high ahead", x.bow(0), 2);
            bends("14 one too high ahead", x, 0, 5, 4);
        }
        LowHeads x = there(1, row(90, 60, 0), row(50, 40, 0), row(40, 50, 9), row(30, 41, 0));
        Check.due("14 two too high", x.bow(0), 12);
        bends("14 two too high", x, 0, 0, 9, 0);
    }

    private static void allButTheEldest() {
        int[] due = {62, 61, 59, 55, 47, 31};
        for (int eldest = 0; eldest < 6; eldest++) {
            for (int law = 0; law <= 1; law++) {
                int[][] rows = new int[6][];
                for (int p = 0; p < 6; p++) {
                    rows[p] = p == eldest ? row(99, 20, 9) : row(10 + p, 30, p);
                }
                LowHeads x = there(law, rows);
                Check.due("14 all but " + eldest, x.bow(0), due[eldest]);
                for (int p = 0; p < 6; p++) {
                    Check.due("14 all their knees", x.person(p, 6), p == eldest ? 0 : p);
                }
            }
        }
    }

    private static void thatRoomAlone() {
        LowHeads x = Check.housed("room 0,0;room 0,0;person 90 40 9 0;person 50 45 9 0;person 91 30 9 0;person 51 35 9 0;");
        x.put(0, 0, 0);
        x.put(1, 0, 1);
        x.put(2, 1, 0);
        x.put(3, 1, 1);
        Check.due("14 room 1", x.bow(1), 0);
        bends("14 room 1", x, 0, 0, 0, 5);
        Check.due("14 room 0", x.bow(0), 0);
        bends("14 both rooms", x, 0, 5, 0, 5);
        Check.due("14 again", x.bow(0), 0);
        bends("14 again", x, 0, 5, 0, 5);
    }

    private static void refusals() {
        Check.allRefused("14 room", Check.outOf(0, 2), Houses::livedIn, r -> x -> x.bow(r), LowHeads.UNKNOWN);
        Check.changesNothing("14 one alone", Houses::livedIn, x -> x.bow(1));
        LowHeads x = Check.housed("room 1;");
        Check.due("14 the only room", x.bow(0), 0);
        Check.due("14 no second room", x.bow(1), LowHeads.UNKNOWN);
    }
}
