/** Promise 22, write: a coming behind THE BOOK, how many; UNKNOWN, FULL (20). */
public final class Promise22Test {
    private Promise22Test() {
    }

    public static void main(String[] args) {
        howMany();
        anyComing();
        full();
        unknownAheadOfFull();
        whatIsSoIsNotAsked();
        theOrderOfComings();
        nothingElseChanges();
        Comings.unknown("22 write", LowHeads::write);
        Check.end();
    }

    private static LowHeads ofLength(int n) {
        LowHeads x = Houses.livedIn();
        x.tear();
        for (int i = 0; i < n; i++) {
            x.write(4, 0, i % 6);
        }
        return x;
    }

    private static void howMany() {
        LowHeads x = Houses.big();
        for (int i = 1; i <= 20; i++) {
            Check.due("22 how many", x.write(i % 6, 0, i % 6), i);
        }
        Check.due("22 a 21st", x.write(0, 0, 0), LowHeads.FULL);
        Check.due("22 told", x.told(5), 20);
    }

    private static void anyComing() {
        int[] places = {6, 1, 2};
        for (int r = 0; r < 3; r++) {
            for (int i = 0; i < places[r]; i++) {
                LowHeads x = Houses.big();
                for (int p = 0; p < 6; p++) {
                    Check.due("22 any coming", x.write(p, r, i), p + 1);
                }
            }
        }
    }

    private static void full() {
        Check.due("22 a 19th", ofLength(18).write(0, 0, 0), 19);
        Check.due("22 a 20th", ofLength(19).write(0, 0, 0), 20);
        Check.refused("22 a 21st", () -> ofLength(20), x -> x.write(0, 0, 0), LowHeads.FULL);
        Check.refused("22 a 21st, the last of all", () -> ofLength(20), x -> x.write(5, 2, 1), LowHeads.FULL);
        LowHeads x = ofLength(20);
        x.write(0, 0, 0);
        x.tear();
        Check.due("22 empty again", x.write(0, 0, 0), 1);
    }

    private static void unknownAheadOfFull() {
        Check.refused("22 no person, full", () -> ofLength(20), x -> x.write(6, 0, 0), LowHeads.UNKNOWN);
        Check.refused("22 no room, full", () -> ofLength(20), x -> x.write(0, 3, 0), LowHeads.UNKNOWN);
        Check.refused("22 no place, full", () -> ofLength(20), x -> x.write(0, 1, 1), LowHeads.UNKNOWN);
    }

    /** One that is somewhere, a place that is taken, the same coming again: all may be written. */
    private static void whatIsSoIsNotAsked() {
        LowHeads x = Houses.livedIn();
        Check.due("22 one that is somewhere", x.write(0, 2, 0), 3);
        Check.due("22 a place that is taken", x.write(4, 0, 1), 4);
        Check.due("22 the same again", x.write(4, 0, 1), 5);
        Check.due("22 nobody comes by it", x.person(4, 4), LowHeads.NONE);
    }

    private static void theOrderOfComings() {
        LowHeads x = Houses.big();
        x.write(0, 0, 0);
        x.write(1, 1, 0);
        x.write(0, 2, 0);
        Check.due("22 the third is wrong", x.judge(0), 2);
        x.tear();
        x.write(0, 0, 0);
        x.write(0, 2, 0);
        x.write(1, 1, 0);
        Check.due("22 the second is wrong", x.judge(0), 1);
    }

    private static void nothingElseChanges() {
        Check.changesNothing("22 written anew", Houses::livedIn,
            x -> x.tear() + x.write(0, 0, 0) + x.tear() + x.write(4, 0, 0) + x.write(1, 0, 0));
    }
}
