/** Promise 25, drift: BY DRAWS n times (1 .. 99); MOVES; OUTSIDE, NOT. */
public final class Promise25Test {
    /** The seed from 0 on, draw by draw. */
    private static final int[] SEEDS = {12345, 1406932606, 654583775, 1449466924, 229283573, 1109335178, 1051550459, 1293799192,
        794471793, 551188310};

    private Promise25Test() {
    }

    public static void main(String[] args) {
        outside();
        nobodyToDraw();
        threeDrawsOrOne();
        theGreatestSeed();
        drawsLeftOver();
        likeASlowWalk();
        notFree();
        movesOfComings();
        leavingIsNoMove();
        allThereBow();
        allBowInEveryRoom();
        onceOrManyTimes();
        nothingElseChanges();
        Check.end();
    }

    private static void outside() {
        Check.allRefused("25 times", Check.outOf(1, 99), Houses::livedIn, n -> x -> x.drift(n), LowHeads.OUTSIDE);
        Check.refused("25 no times", Houses::livedIn, x -> x.drift(0), LowHeads.OUTSIDE);
        Check.allRefused("25 outside ahead of not", Check.outOf(1, 99), LowHeads::new, n -> x -> x.drift(n), LowHeads.OUTSIDE);
    }

    private static LowHeads seeded(String text) {
        LowHeads x = Check.housed(text);
        x.seed(77);
        return x;
    }

    private static void nobodyToDraw() {
        for (int n : new int[] {1, 2, 99}) {
            Check.refused("25 no house", LowHeads::new, x -> x.drift(n), LowHeads.NOT);
            Check.refused("25 no persons", () -> seeded("room 0,0;room 0;room 0;"), x -> x.drift(n), LowHeads.NOT);
            Check.refused("25 no rooms", () -> seeded(Houses.SIX_PERSONS), x -> x.drift(n), LowHeads.NOT);
        }
        Check.due("25 one of both", Check.housed("room 0;person 1 30 0 0;").drift(1), 0);
    }

    /** One person, one place: it comes by three draws and leaves by one. */
    private static void threeDrawsOrOne() {
        LowHeads x = Check.housed("room 0;person 1 30 0 0;");
        int[] draws = {3, 4, 7, 8};
        for (int k = 0; k < 4; k++) {
            Check.due("25 no moves", x.drift(1), 0);
            Check.due("25 there or not", x.told(6), 1 - k % 2);
            int seed = x.seed(0);
            Check.due("25 the seed", seed, SEEDS[draws[k] - 1]);
            x.seed(seed);
        }
        LowHeads y = Check.housed("room 0;person 1 30 0 0;");
        y.drift(99);
        long seed = 0;
        for (int k = 0; k < 50 * 3 + 49; k++) {
            seed = (seed * 1103515245 + 12345) % 2147483648L;
        }
        Check.due("25 there behind 99", y.told(6), 1);
        Check.due("25 the seed behind 99", y.seed(0), seed);
    }

    private static void theGreatestSeed() {
        LowHeads x = Check.housed("room 0;person 1 30 0 0;");
        x.put(0, 0, 0);
        x.seed(2147483647);
        x.drift(1);
        Check.due("25 behind the greatest", x.seed(0), 1043980748);
        x.put(0, 0, 0);
        x.drift(1);
        Check.due("25 behind 0", x.seed(0), 12345);
    }

    /** 1406932606 / 65536 is 21468, left over by 2: 0; 654583775 / 65536 is 9988, left over by 2: 0, by 3: 1. */
    private static void drawsLeftOver() {
        LowHeads x = Check.housed("room 0,0;room 0,0,0;person 1 30 0 0;");
        x.drift(1);
        Check.due("25 the room is drawn", x.person(0, 4), 0);
        Check.due("25 the place is drawn", x.person(0, 5), 0);
        LowHeads y = Check.housed("room 0,0,0;person 1 30 0 0;");
        y.drift(1);
        Check.due("25 the place of three is drawn", y.person(0, 5), 1);
    }

    private long walk;

    private int draw(int n) {
        walk = (walk * 1103515245 + 12345) % 2147483648L;
        return (int) (walk / 65536 % n);
    }

    /** Nobody ever moves here, so that draws alone say who is where. */
    private static void likeASlowWalk() {
        String text = "room 0,0,0,0,0,0;room 0;room 0,0;" + Houses.SIX_PERSONS;
        int[] places = {6, 1, 2};
        for (int start : new int[] {0, 1, 4711, 2147483646, 2147483647}) {
            Promise25Test slow = new Promise25Test();
            slow.walk = start;
            int[] at = {-1, -1, -1, -1, -1, -1};
            LowHeads x = Check.housed(text);
            x.seed(start);
            for (int step = 0; step < 40; step++) {
                Check.due("25 no moves", x.drift(1), 0);
                int p = slow.draw(6);
                if (at[p] >= 0) {
                    at[p] = -1;
                } else {
                    int r = slow.draw(3);
                    int spot = 6 * r + slow.draw(places[r]);
                    boolean free = true;
                    for (int other : at) {
                        free &= other != spot;
                    }
                    at[p] = free ? spot : -1;
                }
                Check.due("25 room of " + p, x.person(p, 4), at[p] < 0 ? -1 : at[p] / 6);
                Check.due("25 place of " + p, x.person(p, 5), at[p] < 0 ? -1 : at[p] % 6);
            }
            Check.due("25 the seed at the end", x.seed(0), slow.walk);
        }
    }

    /** From 0 on the first draw of two is person 0; it finds the only place taken, and the draws are used up. */
    private static void notFree() {
        LowHeads x = Check.housed("room 0;person 1 30 0 0;person 2 30 0 0;");
        x.put(1, 0, 0);
        Check.due("25 not free", x.drift(1), 0);
        Check.due("25 who is there", x.told(6), 2);
        Check.due("25 three draws", x.seed(0), SEEDS[2]);
    }

    private static void movesOfComings() {
        LowHeads x = Check.housed("room 5,0;person 30 60 0 0;person 90 20 0 0;");
        x.put(1, 0, 1);
        Check.due("25 comes and leaves at once", x.drift(1), 1);
        Check.due("25 is nowhere", x.person(0, 4), LowHeads.NONE);
        Check.due("25 by three draws", x.seed(0), SEEDS[2]);
        x = Check.housed("room 1,0;person 30 20 0 0;person 90 20 0 0;");
        x.put(1, 0, 1);
        Check.due("25 one inch above: out", x.drift(1), 1);
        x = Check.housed("room 1,0;person 30 20 1 0;person 90 20 0 0;");
        x.put(1, 0, 1);
        Check.due("25 one inch above: bends", x.drift(1), 0);
        Check.due("25 one inch above: bends", x.person(0, 6), 1);
    }

    private static void leavingIsNoMove() {
        LowHeads x = Check.housed("room 0,0;person 30 20 0 0;person 90 20 0 0;");
        x.put(0, 0, 0);
        x.put(1, 0, 1);
        Check.due("25 leaves", x.drift(1), 0);
        Check.due("25 who is there", x.told(6), 2);
        Check.due("25 by one draw", x.seed(0), SEEDS[0]);
    }

    private static void allThereBow() {
        LowHeads x = Check.housed("room 0,0,0;room 0;person 90 40 5 0;person 60 45 9 0;person 30 47 9 0;person 99 50 9 0;");
        x.put(0, 0, 0);
        x.put(1, 0, 1);
        x.put(2, 0, 2);
        x.put(3, 1, 0);
        x.bow(0);
        x.bend(3, 9);
        Check.due("25 bent ahead", x.person(2, 6), 7);
        x.drift(1);
        Check.due("25 the eldest left", x.told(6), 14);
        Check.due("25 the next stands up", x.person(1, 6), 0);
        Check.due("25 the last bends less", x.person(2, 6), 2);
        Check.due("25 not elsewhere", x.person(3, 6), 9);
        Check.due("25 who left has no bend", x.person(0, 6), 0);
    }

    /** From 0 on person 0 is drawn: it leaves whatever room it is in, from whatever place. */
    private static void allBowInEveryRoom() {
        for (int r = 0; r < 3; r++) {
            for (int place = 0; place < 3; place++) {
                LowHeads x = Check.housed("room 0,0,0;room 0,0,0;room 0,0,0;person 90 40 5 0;person 60 45 9 0;");
                x.put(0, r, place);
                x.put(1, r, (place + 1) % 3);
                x.bow(r);
                Check.due("25 bent in room " + r, x.person(1, 6), 5);
                x.drift(1);
                Check.due("25 alone in room " + r, x.told(6), 2);
                Check.due("25 stands up in room " + r, x.person(1, 6), 0);
            }
        }
    }

    private static LowHeads drifted(int times, int each) {
        LowHeads x = Houses.livedIn();
        int moves = 0;
        for (int k = 0; k < times; k++) {
            moves += x.drift(each);
        }
        x.law(0);
        x.seed(x.seed(0) ^ moves);
        return x;
    }

    /** The moves of many calls are the moves of one (they are mixed into the seed to be looked at). */
    private static void onceOrManyTimes() {
        Check.alike("25 99 at once", () -> drifted(1, 99), () -> drifted(99, 1));
        Check.alike("25 98 at once", () -> drifted(1, 98), () -> drifted(2, 49));
    }

    private static void nothingElseChanges() {
        Check.changesNothing("25 and back", () -> {
            LowHeads x = Houses.livedIn();
            x.keep(1);
            return x;
        }, x -> x.drift(99) + x.goBack(1));
        LowHeads x = Houses.livedIn();
        x.drift(99);
        Check.due("25 the book", x.told(5), 2);
        Check.due("25 the text", x.told(3), 7);
        Check.due("25 the law", x.told(4), 1);
        Check.due("25 ages", x.person(0, 0), 71);
    }
}
