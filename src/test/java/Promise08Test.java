/** Promise 8, friends: W of two, either way round, 0: none; UNKNOWN (one twice). */
public final class Promise08Test {
    private Promise08Test() {
    }

    public static void main(String[] args) {
        asTold();
        leastAndGreatest();
        allFifteen();
        oneTwice();
        unknown();
        gone();
        Check.end();
    }

    private static void asTold() {
        int[][] due = new int[6][6];
        due[0][2] = 9;
        due[1][3] = 20;
        due[2][3] = 5;
        due[4][5] = 99;
        due[0][5] = 1;
        LowHeads x = Houses.livedIn();
        for (int p = 0; p < 6; p++) {
            for (int q = 0; q < 6; q++) {
                if (p != q) {
                    Check.due("8 of " + p + " and " + q, x.friends(p, q), due[Math.min(p, q)][Math.max(p, q)]);
                }
            }
        }
        Check.changesNothing("8 friends", Houses::livedIn, y -> y.friends(0, 2));
    }

    private static void leastAndGreatest() {
        LowHeads x = Check.housed(Houses.SIX_PERSONS + "friends 5 0 1;friends 0 1 99;");
        Check.due("8 the least, as told", x.friends(5, 0), 1);
        Check.due("8 the least, turned", x.friends(0, 5), 1);
        Check.due("8 the greatest, as told", x.friends(0, 1), 99);
        Check.due("8 the greatest, turned", x.friends(1, 0), 99);
        Check.due("8 none", x.friends(5, 1), 0);
    }

    private static void allFifteen() {
        LowHeads x = Check.housed(Houses.SIX_PERSONS + Houses.allFriends(7));
        for (int p = 0; p < 6; p++) {
            for (int q = 0; q < 6; q++) {
                Check.due("8 all, " + p + " and " + q, x.friends(p, q), p == q ? LowHeads.UNKNOWN : 7);
            }
        }
    }

    private static void oneTwice() {
        for (int p = -1; p <= 6; p++) {
            int one = p;
            Check.refused("8 twice " + p, Houses::livedIn, x -> x.friends(one, one), LowHeads.UNKNOWN);
        }
    }

    private static void unknown() {
        Check.allRefused("8 first", Check.outOf(0, 5), Houses::livedIn, p -> x -> x.friends(p, 5), LowHeads.UNKNOWN);
        Check.allRefused("8 second", Check.outOf(0, 5), Houses::livedIn, p -> x -> x.friends(0, p), LowHeads.UNKNOWN);
        LowHeads two = Check.housed("person 5 30 1 1;person 6 30 1 1;friends 0 1 3;");
        Check.due("8 the last of two", two.friends(0, 1), 3);
        Check.due("8 no third of two", two.friends(0, 2), LowHeads.UNKNOWN);
        Check.due("8 no third ahead of the first", two.friends(2, 0), LowHeads.UNKNOWN);
    }

    private static void gone() {
        LowHeads x = Check.housed(Houses.SIX_PERSONS + Houses.allFriends(7));
        Check.fed(x, Houses.SIX_PERSONS + "friends 2 1 4;").house();
        Check.due("8 of the new house", x.friends(1, 2), 4);
        Check.due("8 no more", x.friends(0, 1), 0);
        Check.due("8 no more, the last", x.friends(4, 5), 0);
    }
}
