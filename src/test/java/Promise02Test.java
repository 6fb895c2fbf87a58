/** Promise 2, feed: n 1 .. 8 bytes of a long, the highest of these first; OUTSIDE, FULL (500). */
public final class Promise02Test {
    private static final String TEXT = "room 12,3;person 45 67 8 9;";

    private Promise02Test() {
    }

    public static void main(String[] args) {
        howManyBytes();
        outOfBounds();
        highestFirst();
        whatIsAboveTheBytes();
        bytesAbove127();
        full();
        fullChangesNothing();
        outsideAheadOfFull();
        all500Count();
        aNewTextBehindFull();
        Check.end();
    }

    private static void howManyBytes() {
        for (int n = 1; n <= 8; n++) {
            LowHeads x = new LowHeads();
            Check.due("2 first feed of " + n, x.feed(n, 0), n);
            Check.due("2 next feed of " + n, x.feed(n, -1), 2 * n);
            Check.due("2 told", x.told(3), 2 * n);
        }
    }

    private static void outOfBounds() {
        Check.allRefused("2 feed", Check.outOf(1, 8), Houses::livedIn, n -> x -> x.feed(n, Check.bytes("room 1;")), LowHeads.OUTSIDE);
        Check.allRefused("2 feed, no text", Check.outOf(1, 8), LowHeads::new, n -> x -> x.feed(n, 32), LowHeads.OUTSIDE);
    }

    private static LowHeads fedBy(int n, long above) {
        LowHeads x = new LowHeads();
        for (int i = 0; i < TEXT.length(); i += n) {
            String piece = TEXT.substring(i, Math.min(TEXT.length(), i + n));
            int bits = 8 * piece.length();
            long bytes = Check.bytes(piece) | (bits == 64 ? 0 : above << bits);
            x.feed(piece.length(), bytes);
        }
        return x;
    }

    private static void isText(String what, LowHeads x) {
        Check.due(what + ": length", x.told(3), TEXT.length());
        Check.due(what + ": house", x.house(), 1);
        Check.due(what + ": floor 0", x.room(0, 0, 0), 12);
        Check.due(what + ": floor 1", x.room(0, 1, 0), 3);
        int[] due = {45, 67, 8, 9};
        for (int k = 0; k < 4; k++) {
            Check.due(what + ": person " + k, x.person(0, k), due[k]);
        }
    }

    private static void highestFirst() {
        for (int n = 1; n <= 8; n++) {
            isText("2 by " + n + " bytes", fedBy(n, 0));
        }
        LowHeads x = new LowHeads();
        x.feed(2, Check.bytes("x "));
        Check.due("2 'x ' has its fault", x.house(), -11);
        Check.due("2 at its first byte", x.fault(), 0);
        x.feed(2, Check.bytes(" x"));
        Check.due("2 ' x' has its fault", x.house(), -11);
        Check.due("2 at its second byte", x.fault(), 1);
    }

    private static void whatIsAboveTheBytes() {
        for (int n = 1; n <= 7; n++) {
            isText("2 by " + n + " bytes below others", fedBy(n, 'x'));
            isText("2 by " + n + " bytes below ones", fedBy(n, -1));
        }
    }

    /** 160 is 32 and 128 more, 176 is '0' and 128 more: neither is what the lower bits would be. */
    private static void bytesAbove127() {
        for (int b : new int[] {128, 160, 176, 187, 242, 255}) {
            LowHeads x = new LowHeads();
            Check.due("2 byte " + b, x.feed(1, b), 1);
            Check.due("2 byte " + b + " cannot stand", x.house(), -11);
            Check.due("2 eight bytes " + b, x.feed(8, b * 0x0101010101010101L), 8);
            Check.due("2 bytes " + b + " cannot stand", x.house(), -11);
            Check.due("2 at the first", x.fault(), 0);
        }
    }

    private static LowHeads ofLength(int length) {
        return Check.fed(new LowHeads(), Houses.blanks(length));
    }

    private static void full() {
        for (int n = 1; n <= 8; n++) {
            Check.due("2 up to 499 by " + n, ofLength(499 - n).feed(n, 0), 499);
            Check.due("2 up to 500 by " + n, ofLength(500 - n).feed(n, 0), 500);
            Check.due("2 up to 501 by " + n, ofLength(501 - n).feed(n, 0), LowHeads.FULL);
            Check.due("2 from 500 by " + n, ofLength(500).feed(n, 0), LowHeads.FULL);
        }
    }

    private static LowHeads filled(int length) {
        LowHeads x = Houses.livedIn();
        x.house();
        return Check.fed(x, "room 4;" + Houses.blanks(length - 7));
    }

    private static void fullChangesNothing() {
        Check.refused("2 full by one", () -> filled(500), x -> x.feed(1, 'x'), LowHeads.FULL);
        Check.refused("2 full by eight", () -> filled(500), x -> x.feed(8, 0), LowHeads.FULL);
        Check.refused("2 two where one is free", () -> filled(499), x -> x.feed(2, Check.bytes("xx")), LowHeads.FULL);
        Check.refused("2 eight where seven are free", () -> filled(493), x -> x.feed(8, -1), LowHeads.FULL);
        LowHeads x = filled(493);
        x.feed(8, -1);
        Check.due("2 seven are free still", x.feed(7, Check.bytes("room 5;")), 500);
        Check.due("2 nobody", x.house(), 0);
        Check.due("2 both rooms", x.told(0), 2);
    }

    private static void outsideAheadOfFull() {
        Check.refused("2 none of a full text", () -> filled(500), x -> x.feed(0, 32), LowHeads.OUTSIDE);
        Check.refused("2 nine of a full text", () -> filled(500), x -> x.feed(9, 32), LowHeads.OUTSIDE);
        Check.refused("2 nine where eight are free", () -> filled(492), x -> x.feed(9, 32), LowHeads.OUTSIDE);
    }

    private static void all500Count() {
        LowHeads x = Check.fed(new LowHeads(), Houses.blanks(493) + "room 8;");
        Check.due("2 the last seven bytes", x.house(), 0);
        Check.due("2 are a room", x.told(0), 1);
        Check.fed(x, Houses.blanks(499) + "x");
        Check.due("2 the last byte", x.house(), -11);
        Check.due("2 at 499", x.fault(), 499);
        Check.fed(x, Houses.blanks(494) + "room 8");
        Check.due("2 the end", x.house(), -11);
        Check.due("2 at 500", x.fault(), 500);
    }

    private static void aNewTextBehindFull() {
        LowHeads x = ofLength(500);
        x.feed(1, 32);
        x.house();
        Check.due("2 empty then", x.told(3), 0);
        Check.due("2 from 0 on", x.feed(8, Check.bytes("room 20;")), 8);
        x.house();
        Check.due("2 nothing of the old text", x.room(0, 0, 0), 20);
    }
}
