/** Promise 6, room: PLACES, FLOORS, who is there; UNKNOWN ahead of OUTSIDE. */
public final class Promise06Test {
    private static final int[][] FLOORS = {{0, 10, 20, 30, 40, 5}, {7}, {3, 3}};

    private Promise06Test() {
    }

    public static void main(String[] args) {
        placesAndFloors();
        leastAndGreatest();
        whoIsThere();
        noRoom();
        noPlace();
        outside();
        placesWhateverWhatIs();
        Check.end();
    }

    private static void placesAndFloors() {
        LowHeads x = Houses.big();
        for (int r = 0; r < 3; r++) {
            Check.due("6 places of " + r, x.room(r, LowHeads.NONE, 0), FLOORS[r].length);
            for (int i = 0; i < FLOORS[r].length; i++) {
                Check.due("6 floor " + i + " of " + r, x.room(r, i, 0), FLOORS[r][i]);
                Check.due("6 nobody at " + i + " of " + r, x.room(r, i, 1), LowHeads.NONE);
            }
        }
    }

    private static void leastAndGreatest() {
        LowHeads x = Check.housed("room 40;room 0,40,0,40,0,40;room 40,0;");
        Check.due("6 one place", x.room(0, LowHeads.NONE, 0), 1);
        Check.due("6 the highest floor", x.room(0, 0, 0), 40);
        Check.due("6 six places", x.room(1, LowHeads.NONE, 0), 6);
        for (int i = 0; i < 6; i++) {
            Check.due("6 floor of six, " + i, x.room(1, i, 0), 40 * (i % 2));
        }
        Check.due("6 the lowest floor", x.room(2, 1, 0), 0);
    }

    private static void whoIsThere() {
        LowHeads x = Houses.big();
        for (int k = 0; k < 6; k++) {
            x.put(5 - k, 0, k);
        }
        for (int k = 0; k < 6; k++) {
            Check.due("6 who is at " + k, x.room(0, k, 1), 5 - k);
        }
        Check.due("6 nobody in the next room", x.room(1, 0, 1), LowHeads.NONE);
        x.leave(0);
        Check.due("6 who left", x.room(0, 5, 1), LowHeads.NONE);
        x.put(0, 2, 1);
        Check.due("6 in the last room", x.room(2, 1, 1), 0);
        Check.due("6 beside", x.room(2, 0, 1), LowHeads.NONE);
        Check.changesNothing("6 who", Houses::livedIn, y -> y.room(0, 1, 1));
    }

    private static void noRoom() {
        int[] none = Check.outOf(0, 2);
        Check.allRefused("6 places of a room", none, Houses::livedIn, r -> x -> x.room(r, LowHeads.NONE, 0), LowHeads.UNKNOWN);
        Check.allRefused("6 floor of a room", none, Houses::livedIn, r -> x -> x.room(r, 0, 0), LowHeads.UNKNOWN);
        Check.allRefused("6 room ahead of what", none, Houses::livedIn, r -> x -> x.room(r, 0, 2), LowHeads.UNKNOWN);
        LowHeads two = Check.housed("room 1;room 2;");
        Check.due("6 the last of two", two.room(1, 0, 0), 2);
        Check.due("6 no third of two", two.room(2, 0, 0), LowHeads.UNKNOWN);
        Check.due("6 no places of a third", two.room(2, LowHeads.NONE, 0), LowHeads.UNKNOWN);
    }

    private static void noPlace() {
        for (int i : Check.outOf(-1, 5)) {
            Check.refused("6 place " + i, Houses::livedIn, x -> x.room(0, i, 0), LowHeads.UNKNOWN);
            Check.refused("6 who at place " + i, Houses::livedIn, x -> x.room(0, i, 1), LowHeads.UNKNOWN);
            Check.refused("6 place " + i + " ahead of what", Houses::livedIn, x -> x.room(0, i, -1), LowHeads.UNKNOWN);
        }
        Check.refused("6 a second place of one", Houses::livedIn, x -> x.room(1, 1, 0), LowHeads.UNKNOWN);
        Check.refused("6 a third place of two", Houses::livedIn, x -> x.room(2, 2, 1), LowHeads.UNKNOWN);
        Check.refused("6 a third place ahead of what", Houses::livedIn, x -> x.room(2, 2, 2), LowHeads.UNKNOWN);
    }

    private static void outside() {
        Check.allRefused("6 what", Check.outOf(0, 1), Houses::livedIn, n -> x -> x.room(0, 5, n), LowHeads.OUTSIDE);
        Check.allRefused("6 what of the last place", Check.outOf(0, 1), Houses::livedIn, n -> x -> x.room(2, 1, n), LowHeads.OUTSIDE);
    }

    /** The document has a 'what' only where i is no NONE. */
    private static void placesWhateverWhatIs() {
        for (int what : new int[] {-2147483648, -1, 0, 1, 2, 2147483647}) {
            Check.due("6 places, what " + what, Houses.big().room(2, LowHeads.NONE, what), 2);
        }
    }
}
