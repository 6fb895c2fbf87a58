/** Promise 20, till: the least number of YEARS (0 on) behind which some ROOM has a FAULT; 60: none. */
public final class Promise20Test {
    private Promise20Test() {
    }

    public static void main(String[] args) {
        nobody();
        aFaultNow();
        everyYear();
        neverBehind20();
        grownUp();
        ninetyAtMost();
        bendsAsTheyAre();
        anyRoom();
        theFirstOfTwo();
        aFaultThatPasses();
        byLaw();
        whoIsNowhere();
        nothingChanges();
        Check.end();
    }

    private static LowHeads two(String elder, String child) {
        LowHeads x = Check.housed("room 0,0;person " + elder + ";person " + child + ";");
        x.put(0, 0, 0);
        x.put(1, 0, 1);
        return x;
    }

    private static void nobody() {
        Check.due("20 no house", new LowHeads().till(), 60);
        Check.due("20 nobody is there", Houses.big().till(), 60);
        LowHeads x = Check.housed("room 0;person 0 20 40 9;");
        x.put(0, 0, 0);
        Check.due("20 one alone", x.till(), 60);
    }

    private static void aFaultNow() {
        Check.due("20 one inch above", two("90 40 0 0", "20 41 0 0").till(), 0);
        Check.due("20 as high", two("90 40 0 0", "20 40 0 0").till(), 60);
        Check.due("20 as high, growing", two("90 40 0 0", "19 40 0 1").till(), 1);
    }

    /** A child of no years grows by an inch a year, twenty times: behind n years it is above 19 + n inches. */
    private static void everyYear() {
        for (int n = 1; n <= 20; n++) {
            LowHeads x = two("90 " + (19 + n < 20 ? 20 : 19 + n) + " 0 0", "0 20 0 1");
            Check.due("20 behind " + n, x.till(), n);
            Check.due("20 till then", n == 1 ? 0 : x.year(n - 1), 0);
            Check.due("20 one more", x.year(1), 1);
            Check.due("20 now", x.till(), 0);
        }
    }

    private static void neverBehind20() {
        Check.due("20 behind 20", two("90 39 0 0", "0 20 0 1").till(), 20);
        LowHeads x = two("90 40 0 0", "0 20 0 1");
        Check.due("20 never", x.till(), 60);
        Check.due("20 nor in sixty years", x.year(60), 0);
    }

    private static void grownUp() {
        Check.due("20 from 18 on, 1", two("90 40 0 0", "18 40 0 1").till(), 1);
        Check.due("20 from 18 on, 2", two("90 41 0 0", "18 40 0 1").till(), 2);
        Check.due("20 from 18 on, never", two("90 42 0 0", "18 40 0 1").till(), 60);
        Check.due("20 from 19 on, 1", two("90 40 0 0", "19 40 0 1").till(), 1);
        Check.due("20 from 19 on, never", two("90 41 0 0", "19 40 0 1").till(), 60);
        Check.due("20 from 20 on, never", two("90 40 0 0", "20 40 0 9").till(), 60);
    }

    private static void ninetyAtMost() {
        Check.due("20 above 89", two("90 89 0 0", "10 81 0 9").till(), 1);
        Check.due("20 not above 90", two("90 90 0 0", "10 89 0 9").till(), 60);
    }

    private static void bendsAsTheyAre() {
        LowHeads x = two("90 40 9 0", "10 40 9 2");
        Check.due("20 no bend", x.till(), 1);
        x.bend(1, 1);
        Check.due("20 bend 1", x.till(), 1);
        x.bend(1, 2);
        Check.due("20 bend 2", x.till(), 2);
        x.bend(1, 9);
        Check.due("20 bend 9", x.till(), 5);
        x.bend(0, 9);
        Check.due("20 both bend 9", x.till(), 1);
        x.bend(1, 8);
        Check.due("20 the elder bends more", x.till(), 0);
        Check.due("20 nobody bows by it", x.person(0, 6), 9);
    }

    private static void anyRoom() {
        for (int r = 0; r < 3; r++) {
            LowHeads x = Check.housed("room 0,0;room 0,0;room 0,0;person 90 40 0 0;person 10 38 0 1;person 91 40 0 0;person 11 30 0 0;");
            x.put(0, r, 0);
            x.put(1, r, 1);
            x.put(2, (r + 1) % 3, 0);
            x.put(3, (r + 1) % 3, 1);
            Check.due("20 in room " + r, x.till(), 3);
        }
    }

    private static void theFirstOfTwo() {
        LowHeads x = Check.housed("room 0,0;room 0,0;person 90 40 0 0;person 10 38 0 1;person 91 40 0 0;person 11 39 0 1;");
        for (int p = 0; p < 4; p++) {
            x.put(p, p / 2, p % 2);
        }
        Check.due("20 the first of 3 and 2", x.till(), 2);
        x.leave(3);
        Check.due("20 then 3", x.till(), 3);
    }

    private static void aFaultThatPasses() {
        LowHeads x = two("10 38 0 9", "9 39 0 1");
        Check.due("20 now, though not behind a year", x.till(), 0);
        Check.due("20 not behind a year", x.year(1), 0);
        Check.due("20 never", x.till(), 60);
    }

    private static void byLaw() {
        LowHeads x = Check.housed("room 0,0,0;person 90 50 0 0;person 50 40 0 0;person 10 39 0 1;");
        for (int p = 0; p < 3; p++) {
            x.put(p, 0, p);
        }
        Check.due("20 law 0: above 50 never", x.till(), 60);
        x.law(1);
        Check.due("20 law 1: above 40", x.till(), 2);
    }

    private static void whoIsNowhere() {
        LowHeads x = Check.housed("room 0,0;person 90 40 0 0;person 10 40 0 9;person 91 20 0 0;");
        x.put(0, 0, 0);
        Check.due("20 the child is nowhere", x.till(), 60);
        x.put(1, 0, 1);
        Check.due("20 the child is there", x.till(), 1);
    }

    private static void nothingChanges() {
        Check.changesNothing("20 till", Houses::livedIn, x -> x.till());
        Check.changesNothing("20 till, lawful", () -> {
            LowHeads x = Houses.livedIn();
            x.empty();
            return x;
        }, x -> x.till());
    }
}
