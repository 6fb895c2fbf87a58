/** Promise 26, empty: nobody is anywhere; how many were somewhere. */
public final class Promise26Test {
    private Promise26Test() {
    }

    public static void main(String[] args) {
        howMany();
        inAllRooms();
        isNowhere();
        nothingElseChanges();
        Check.end();
    }

    private static void howMany() {
        Check.due("26 of a new object", new LowHeads().empty(), 0);
        for (int n = 0; n <= 6; n++) {
            LowHeads x = Houses.big();
            for (int k = 0; k < n; k++) {
                x.put(5 - k, 0, k);
            }
            Check.due("26 so many", x.empty(), n);
            Check.due("26 nobody", x.told(6), 0);
            Check.due("26 again", x.empty(), 0);
        }
    }

    private static void inAllRooms() {
        LowHeads x = Houses.livedIn();
        Check.due("26 in three rooms", x.empty(), 4);
        int[] places = {6, 1, 2};
        for (int r = 0; r < 3; r++) {
            for (int i = 0; i < places[r]; i++) {
                Check.due("26 nobody at " + i + " of " + r, x.room(r, i, 1), LowHeads.NONE);
            }
        }
    }

    private static void isNowhere() {
        LowHeads x = Houses.livedIn();
        x.empty();
        for (int p = 0; p < 6; p++) {
            Check.due("26 room of " + p, x.person(p, 4), LowHeads.NONE);
            Check.due("26 place of " + p, x.person(p, 5), LowHeads.NONE);
            Check.due("26 bend of " + p, x.person(p, 6), 0);
            Check.due("26 head of " + p, x.person(p, 7), LowHeads.NONE);
            Check.due("26 leave of " + p, x.leave(p), LowHeads.NOT);
        }
        Check.due("26 all can be put again", x.put(0, 0, 1), 1);
    }

    private static void nothingElseChanges() {
        Check.changesNothing("26 put as it was", Houses::livedIn, x -> {
            x.empty();
            x.put(0, 0, 1);
            x.put(3, 0, 4);
            x.bend(3, 2);
            x.put(2, 2, 1);
            x.bend(2, 20);
            return x.put(5, 1, 0);
        });
        Check.changesNothing("26 nobody was there", Houses::big, x -> x.empty());
    }
}
