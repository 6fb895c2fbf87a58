/** Promise 5, told: what 0 .. 6, each at its least and its greatest; OUTSIDE. */
public final class Promise05Test {
    private Promise05Test() {
    }

    public static void main(String[] args) {
        eachWhat();
        outOfBounds();
        leastAndGreatest();
        bytesOfTheText();
        comings();
        whoIsSomewhere();
        Check.end();
    }

    private static void eachWhat() {
        int[] due = {3, 6, 5, 7, 1, 2, 1 + 4 + 8 + 32};
        for (int what = 0; what <= 6; what++) {
            int w = what;
            Check.due("5 told " + what, Houses.livedIn().told(what), due[what]);
            Check.changesNothing("5 told " + what, Houses::livedIn, x -> x.told(w));
        }
    }

    private static void outOfBounds() {
        Check.allRefused("5 told", Check.outOf(0, 6), Houses::livedIn, n -> x -> x.told(n), LowHeads.OUTSIDE);
        Check.allRefused("5 told, new", Check.outOf(0, 6), LowHeads::new, n -> x -> x.told(n), LowHeads.OUTSIDE);
    }

    private static void leastAndGreatest() {
        LowHeads x = Check.housed("room 1;");
        Check.due("5 one room", x.told(0), 1);
        Check.due("5 no persons", x.told(1), 0);
        x = Check.housed("person 1 30 1 1;");
        Check.due("5 no rooms", x.told(0), 0);
        Check.due("5 one person", x.told(1), 1);
        Check.due("5 no friends", x.told(2), 0);
        x = Check.housed("room 1;room 1;room 1;" + Houses.SIX_PERSONS + Houses.allFriends(9));
        Check.due("5 three rooms", x.told(0), 3);
        Check.due("5 six persons", x.told(1), 6);
        Check.due("5 fifteen friends", x.told(2), 15);
        Check.due("5 law 0", x.told(4), 0);
        x.law(1);
        Check.due("5 law 1", x.told(4), 1);
        x.house();
        Check.due("5 rooms are gone", x.told(0), 0);
        Check.due("5 persons are gone", x.told(1), 0);
        Check.due("5 friends are gone", x.told(2), 0);
        Check.due("5 law stays", x.told(4), 1);
    }

    private static void bytesOfTheText() {
        LowHeads x = new LowHeads();
        for (int i = 1; i <= 62; i++) {
            x.feed(8, 0);
            Check.due("5 bytes", x.told(3), 8 * i);
        }
        x.feed(4, 0);
        Check.due("5 500 bytes", x.told(3), 500);
        x.feed(1, 0);
        Check.due("5 500 bytes still", x.told(3), 500);
        x.house();
        Check.due("5 none behind a fault", x.told(3), 0);
        Check.fed(x, "room 1;").house();
        Check.due("5 none behind a house", x.told(3), 0);
    }

    private static void comings() {
        LowHeads x = Houses.big();
        for (int i = 1; i <= 20; i++) {
            x.write(0, 0, 0);
            Check.due("5 comings", x.told(5), i);
        }
        x.write(0, 0, 0);
        Check.due("5 20 comings still", x.told(5), 20);
        x.tear();
        Check.due("5 no comings", x.told(5), 0);
    }

    private static void whoIsSomewhere() {
        LowHeads x = Houses.big();
        int due = 0;
        int[] order = {5, 0, 3, 1, 4, 2};
        for (int k = 0; k < 6; k++) {
            x.put(order[k], 0, k);
            due |= 1 << order[k];
            Check.due("5 with " + order[k], x.told(6), due);
        }
        Check.due("5 all", x.told(6), 63);
        for (int p = 0; p < 6; p++) {
            x.leave(p);
            due &= ~(1 << p);
            Check.due("5 without " + p, x.told(6), due);
        }
        x.put(5, 2, 1);
        Check.due("5 in the last room", x.told(6), 32);
        Check.fed(x, "room 1;" + Houses.SIX_PERSONS).house();
        Check.due("5 in a new house", x.told(6), 0);
    }
}
