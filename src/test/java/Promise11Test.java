/** Promise 11, leave: the ROOM it was in; UNKNOWN, NOT. */
public final class Promise11Test {
    private Promise11Test() {
    }

    public static void main(String[] args) {
        whichRoom();
        isNowhere();
        nobodyElseBows();
        nothingElseChanges();
        unknown();
        nowhere();
        Check.end();
    }

    private static void whichRoom() {
        int[] due = {0, LowHeads.NOT, 2, 0, LowHeads.NOT, 1};
        for (int p = 0; p < 6; p++) {
            Check.due("11 room of " + p, Houses.livedIn().leave(p), due[p]);
        }
    }

    private static void isNowhere() {
        LowHeads x = Houses.livedIn();
        x.leave(2);
        Check.due("11 no room", x.person(2, 4), LowHeads.NONE);
        Check.due("11 no place", x.person(2, 5), LowHeads.NONE);
        Check.due("11 no bend", x.person(2, 6), 0);
        Check.due("11 no head", x.person(2, 7), LowHeads.NONE);
        Check.due("11 the place is free", x.room(2, 1, 1), LowHeads.NONE);
        Check.due("11 who is somewhere", x.told(6), 41);
        Check.due("11 again", x.leave(2), LowHeads.NOT);
    }

    private static void nobodyElseBows() {
        LowHeads x = Check.housed("room 0,0,0;person 90 50 9 0;person 50 55 9 0;person 30 55 9 0;");
        for (int p = 0; p < 3; p++) {
            x.put(p, 0, p);
        }
        x.bow(0);
        x.leave(0);
        Check.due("11 bent still", x.person(1, 6), 5);
        Check.due("11 bent still", x.person(2, 6), 5);
        x.bend(1, 9);
        x.leave(2);
        Check.due("11 alone and bent", x.person(1, 6), 9);
    }

    private static void nothingElseChanges() {
        Check.changesNothing("11 leave and put", Houses::livedIn, x -> x.leave(0) + x.put(0, 0, 1));
        Check.changesNothing("11 leave, put and bend", Houses::livedIn, x -> x.leave(3) + x.put(3, 0, 4) + x.bend(3, 2));
    }

    private static void unknown() {
        Check.allRefused("11 leave", Check.outOf(0, 5), Houses::livedIn, p -> x -> x.leave(p), LowHeads.UNKNOWN);
        LowHeads one = Check.housed("room 1;person 5 30 1 1;");
        one.put(0, 0, 0);
        Check.due("11 no second person", one.leave(1), LowHeads.UNKNOWN);
        Check.due("11 the only one", one.leave(0), 0);
    }

    private static void nowhere() {
        Check.refused("11 was never anywhere", Houses::livedIn, x -> x.leave(1), LowHeads.NOT);
        Check.refused("11 was never anywhere", Houses::livedIn, x -> x.leave(4), LowHeads.NOT);
        Check.refused("11 all are sent out", () -> {
            LowHeads x = Houses.livedIn();
            x.empty();
            return x;
        }, x -> x.leave(0), LowHeads.NOT);
    }
}
