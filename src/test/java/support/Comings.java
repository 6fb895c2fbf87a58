/** What put, come and write refuse alike: a PERSON, ROOM or PLACE that there is not. */
final class Comings {
    /** A call that takes a person, a room and a place. */
    interface Coming {
        int of(LowHeads x, int p, int r, int place);
    }

    private static final int[] PLACES = {6, 1, 2};

    private Comings() {
    }

    /** Each of the three is out of its bounds by one step and by far, on what is free and on what is taken. */
    static void unknown(String what, Coming call) {
        for (int p : Check.outOf(0, 5)) {
            Check.refused(what + ", person " + p, Houses::livedIn, x -> call.of(x, p, 0, 0), LowHeads.UNKNOWN);
            Check.refused(what + ", person " + p + " to a place taken", Houses::livedIn, x -> call.of(x, p, 0, 1), LowHeads.UNKNOWN);
        }
        for (int r : Check.outOf(0, 2)) {
            Check.refused(what + ", room " + r, Houses::livedIn, x -> call.of(x, 4, r, 0), LowHeads.UNKNOWN);
            Check.refused(what + ", room " + r + " for one somewhere", Houses::livedIn, x -> call.of(x, 0, r, 0), LowHeads.UNKNOWN);
        }
        for (int r = 0; r < 3; r++) {
            int room = r;
            for (int place : Check.outOf(0, PLACES[r] - 1)) {
                Check.refused(what + ", place " + place, Houses::livedIn, x -> call.of(x, 4, room, place), LowHeads.UNKNOWN);
                Check.refused(what + ", place " + place + " for one somewhere", Houses::livedIn,
                    x -> call.of(x, 0, room, place), LowHeads.UNKNOWN);
            }
        }
        Check.refused(what + ", all three", Houses::livedIn, x -> call.of(x, 6, 3, 6), LowHeads.UNKNOWN);
    }

    /** Persons 0, 2, 3 and 5 are somewhere; places 1 and 4 of room 0, 0 of room 1 and 1 of room 2 are taken. */
    static void not(String what, Coming call) {
        Check.refused(what + ", where it is", Houses::livedIn, x -> call.of(x, 0, 0, 1), LowHeads.NOT);
        Check.refused(what + ", somewhere, beside", Houses::livedIn, x -> call.of(x, 0, 0, 0), LowHeads.NOT);
        Check.refused(what + ", somewhere, to another room", Houses::livedIn, x -> call.of(x, 5, 2, 0), LowHeads.NOT);
        Check.refused(what + ", somewhere, to a place taken", Houses::livedIn, x -> call.of(x, 2, 1, 0), LowHeads.NOT);
        Check.refused(what + ", not free", Houses::livedIn, x -> call.of(x, 1, 0, 1), LowHeads.NOT);
        Check.refused(what + ", not free in room 1", Houses::livedIn, x -> call.of(x, 4, 1, 0), LowHeads.NOT);
        Check.refused(what + ", not free in the last room", Houses::livedIn, x -> call.of(x, 4, 2, 1), LowHeads.NOT);
    }
}
