/** Promise 10, put: at a PLACE, BEND 0, who is in that ROOM then; UNKNOWN, NOT. */
public final class Promise10Test {
    private Promise10Test() {
    }

    public static void main(String[] args) {
        everyPlace();
        aFullRoom();
        thatRoomAlone();
        bendIsNone();
        nobodyElseBends();
        lawsAreNotAsked();
        freeAgain();
        nothingElseChanges();
        Comings.unknown("10 put", LowHeads::put);
        Comings.not("10 put", LowHeads::put);
        Check.end();
    }

    private static void everyPlace() {
        int[] places = {6, 1, 2};
        for (int r = 0; r < 3; r++) {
            for (int i = 0; i < places[r]; i++) {
                for (int p : new int[] {0, 3, 5}) {
                    LowHeads x = Houses.big();
                    Check.due("10 put alone", x.put(p, r, i), 1 << p);
                    Check.due("10 room", x.person(p, 4), r);
                    Check.due("10 place", x.person(p, 5), i);
                    Check.due("10 who is there", x.room(r, i, 1), p);
                    Check.due("10 bend", x.person(p, 6), 0);
                }
            }
        }
    }

    private static void aFullRoom() {
        LowHeads x = Houses.big();
        for (int p = 0; p < 6; p++) {
            Check.due("10 one more", x.put(p, 0, p), (2 << p) - 1);
        }
        LowHeads y = Houses.big();
        int[] due = {32, 48, 56, 60, 62, 63};
        for (int k = 0; k < 6; k++) {
            Check.due("10 from the last on", y.put(5 - k, 0, k), due[k]);
        }
    }

    private static void thatRoomAlone() {
        LowHeads x = Houses.big();
        Check.due("10 room 0", x.put(0, 0, 0), 1);
        Check.due("10 the same place of room 1", x.put(1, 1, 0), 2);
        Check.due("10 the same place of room 2", x.put(2, 2, 0), 4);
        Check.due("10 room 2 again", x.put(5, 2, 1), 36);
        Check.due("10 room 0 again", x.put(4, 0, 5), 17);
        Check.due("10 all", x.told(6), 55);
    }

    private static void bendIsNone() {
        LowHeads x = Houses.big();
        x.put(4, 0, 0);
        x.bend(4, 40);
        x.leave(4);
        x.put(4, 0, 0);
        Check.due("10 no bend of before", x.person(4, 6), 0);
        Check.due("10 head", x.person(4, 7), 90);
    }

    private static void nobodyElseBends() {
        LowHeads x = Houses.big();
        x.put(3, 0, 4);
        x.bend(3, 3);
        x.put(0, 0, 0);
        Check.due("10 as it was bent", x.person(3, 6), 3);
        Check.due("10 the elder stands", x.person(0, 6), 0);
    }

    private static void lawsAreNotAsked() {
        for (int law = 0; law <= 1; law++) {
            LowHeads x = Houses.big();
            x.law(law);
            x.put(5, 0, 0);
            Check.due("10 higher than all", x.put(3, 0, 4), 40);
            Check.due("10 the eldest below all", x.put(0, 0, 1), 41);
            Check.due("10 a fault", x.first(0, 0), 3);
        }
    }

    private static void freeAgain() {
        LowHeads x = Houses.big();
        x.put(0, 1, 0);
        Check.due("10 taken", x.put(1, 1, 0), LowHeads.NOT);
        x.leave(0);
        Check.due("10 free again", x.put(1, 1, 0), 2);
        Check.due("10 who left", x.put(0, 2, 1), 1);
    }

    private static void nothingElseChanges() {
        Check.changesNothing("10 put and leave", Houses::livedIn, x -> x.put(4, 2, 0) + x.leave(4));
    }
}
