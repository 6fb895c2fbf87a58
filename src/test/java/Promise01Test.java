/** Promise 1, a new object: no ROOMS, no PERSONS; the constants; what is so at first. */
public final class Promise01Test {
    private static final int[] ANY = {-2147483648, -2, -1, 0, 1, 2, 5, 6, 31, 32, 2147483647};

    private Promise01Test() {
    }

    public static void main(String[] args) {
        constants();
        nothingIsTold();
        noRoomIsKnown();
        noPersonIsKnown();
        noComingIsKnown();
        theEmptySetIsKnown();
        whatIsSoAtFirst();
        imagesOfNothing();
        objectsShareNothing();
        the512thCall();
        Check.end();
    }

    private static void constants() {
        Check.due("1 NONE", LowHeads.NONE, -1);
        Check.due("1 UNKNOWN", LowHeads.UNKNOWN, -1000000001);
        Check.due("1 OUTSIDE", LowHeads.OUTSIDE, -1000000002);
        Check.due("1 NOT", LowHeads.NOT, -1000000003);
        Check.due("1 FULL", LowHeads.FULL, -1000000004);
    }

    private static void nothingIsTold() {
        for (int what = 0; what <= 6; what++) {
            Check.due("1 told " + what, new LowHeads().told(what), 0);
        }
        Check.due("1 no fault", new LowHeads().fault(), LowHeads.NONE);
    }

    private static void noRoomIsKnown() {
        LowHeads x = new LowHeads();
        for (int r : ANY) {
            Check.due("1 room " + r, x.room(r, LowHeads.NONE, 0), LowHeads.UNKNOWN);
            Check.due("1 place of room " + r, x.room(r, 0, 0), LowHeads.UNKNOWN);
            Check.due("1 first in " + r, x.first(r, 0), LowHeads.UNKNOWN);
            Check.due("1 bow in " + r, x.bow(r), LowHeads.UNKNOWN);
            Check.due("1 party in " + r, x.party(r, 0, LowHeads.NONE), LowHeads.UNKNOWN);
            Check.due("1 cuts in " + r, x.cuts(r, 0), LowHeads.UNKNOWN);
            Check.due("1 seen in " + r, x.seen(r, 0), LowHeads.UNKNOWN);
        }
    }

    private static void noPersonIsKnown() {
        LowHeads x = new LowHeads();
        for (int p : ANY) {
            for (int what = -1; what <= 8; what++) {
                Check.due("1 person " + p, x.person(p, what), LowHeads.UNKNOWN);
            }
            Check.due("1 leave " + p, x.leave(p), LowHeads.UNKNOWN);
            Check.due("1 bend " + p, x.bend(p, 0), LowHeads.UNKNOWN);
            Check.due("1 friends " + p, x.friends(p, 0), LowHeads.UNKNOWN);
            Check.due("1 friends of " + p, x.friends(1, p), LowHeads.UNKNOWN);
        }
    }

    private static void noComingIsKnown() {
        LowHeads x = new LowHeads();
        for (int n : ANY) {
            Check.due("1 put " + n, x.put(n, 0, 0), LowHeads.UNKNOWN);
            Check.due("1 put to " + n, x.put(0, n, 0), LowHeads.UNKNOWN);
            Check.due("1 come " + n, x.come(n, 0, 0), LowHeads.UNKNOWN);
            Check.due("1 come to " + n, x.come(0, 0, n), LowHeads.UNKNOWN);
            Check.due("1 write " + n, x.write(n, n, n), LowHeads.UNKNOWN);
        }
        Check.due("1 nothing was written", x.told(5), 0);
    }

    private static void theEmptySetIsKnown() {
        LowHeads x = new LowHeads();
        Check.due("1 feast of nobody", x.feast(0, LowHeads.NONE), 0);
        Check.due("1 friends at a feast of nobody", x.feast(0, -2), 0);
        for (int n : ANY) {
            if (n != 0) {
                Check.due("1 feast of " + n, x.feast(n, LowHeads.NONE), LowHeads.UNKNOWN);
            }
            if (n != -1 && n != -2) {
                Check.due("1 room of " + n + " at a feast", x.feast(0, n), LowHeads.UNKNOWN);
            }
        }
    }

    private static void whatIsSoAtFirst() {
        LowHeads x = new LowHeads();
        Check.due("1 law", x.law(0), 0);
        Check.due("1 seed", x.seed(0), 0);
        Check.due("1 nobody to send out", x.empty(), 0);
        Check.due("1 no book to tear", x.tear(), 0);
        Check.due("1 no wrong coming", x.judge(0), LowHeads.NONE);
        Check.due("1 no moves", x.judge(1), 0);
        Check.due("1 lawful till", x.till(), 60);
        Check.due("1 a year", x.year(1), 0);
        Check.due("1 sixty years", x.year(60), 0);
        Check.due("1 nobody to draw", x.drift(1), LowHeads.NOT);
        Check.due("1 the seed stays", x.seed(0), 0);
        Check.due("1 an empty text is an empty house", x.house(), 0);
    }

    private static void imagesOfNothing() {
        LowHeads x = new LowHeads();
        Check.due("1 image 0 was not kept", x.goBack(0), LowHeads.NOT);
        Check.due("1 image 1 was not kept", x.goBack(1), LowHeads.NOT);
        Check.due("1 keep", x.keep(1), 1);
        x.law(1);
        x.seed(9);
        Check.due("1 image 0 was not kept still", x.goBack(0), LowHeads.NOT);
        Check.due("1 back", x.goBack(1), 1);
        Check.due("1 law of then", x.told(4), 0);
        Check.due("1 seed of then", x.seed(0), 0);
    }

    private static void objectsShareNothing() {
        LowHeads other = new LowHeads();
        String ahead = Check.picture(other);
        Houses.livedIn();
        Check.same("1 another object's life", Check.picture(other), ahead);
        Check.same("1 a later object", Check.picture(new LowHeads()), ahead);
    }

    private static void the512thCall() {
        LowHeads x = new LowHeads();
        for (int call = 1; call <= 512; call++) {
            Check.due("1 call " + call, x.law(call % 2), call == 1 ? 0 : 1 - call % 2);
        }
    }
}
