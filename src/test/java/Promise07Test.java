/** Promise 7, person: what 0 .. 7, NONE for one that is nowhere; UNKNOWN ahead of OUTSIDE. */
public final class Promise07Test {
    private Promise07Test() {
    }

    public static void main(String[] args) {
        asTold();
        leastAndGreatest();
        nowhere();
        atTheFirstPlace();
        atTheLastPlace();
        heads();
        unknown();
        outside();
        Check.end();
    }

    private static void asTold() {
        int[][] due = {{70, 60, 5, 0}, {40, 66, 8, 0}, {12, 50, 20, 3}, {30, 72, 4, 0}, {99, 90, 40, 9}, {0, 20, 0, 1}};
        LowHeads x = Houses.big();
        for (int p = 0; p < 6; p++) {
            for (int what = 0; what < 4; what++) {
                Check.due("7 person " + p + ", " + what, x.person(p, what), due[p][what]);
            }
        }
    }

    private static void leastAndGreatest() {
        LowHeads x = Check.housed("person 0 20 0 0;person 99 90 40 9;");
        int[][] due = {{0, 20, 0, 0}, {99, 90, 40, 9}};
        for (int p = 0; p < 2; p++) {
            for (int what = 0; what < 4; what++) {
                Check.due("7 bound of person " + p + ", " + what, x.person(p, what), due[p][what]);
            }
        }
    }

    private static void isNowhere(String what, LowHeads x, int p) {
        Check.due(what + ": room", x.person(p, 4), LowHeads.NONE);
        Check.due(what + ": place", x.person(p, 5), LowHeads.NONE);
        Check.due(what + ": bend", x.person(p, 6), 0);
        Check.due(what + ": head", x.person(p, 7), LowHeads.NONE);
    }

    private static void nowhere() {
        LowHeads x = Houses.big();
        isNowhere("7 at first", x, 0);
        isNowhere("7 at first", x, 5);
        x.put(4, 2, 0);
        x.bend(4, 40);
        x.leave(4);
        isNowhere("7 who left", x, 4);
        x.put(4, 2, 0);
        x.bend(4, 40);
        x.empty();
        isNowhere("7 sent out", x, 4);
    }

    private static void isAt(String what, LowHeads x, int p, int... due) {
        for (int k = 0; k < 4; k++) {
            Check.due(what + ": " + (4 + k), x.person(p, 4 + k), due[k]);
        }
    }

    private static void atTheFirstPlace() {
        LowHeads x = Houses.big();
        x.put(0, 0, 0);
        isAt("7 at the first place", x, 0, 0, 0, 0, 60);
        x.bend(0, 1);
        isAt("7 bent by one", x, 0, 0, 0, 1, 59);
        x.bend(0, 5);
        isAt("7 bent by all", x, 0, 0, 0, 5, 55);
    }

    private static void atTheLastPlace() {
        LowHeads x = Houses.big();
        x.put(5, 0, 5);
        isAt("7 the last person at the last place", x, 5, 0, 5, 0, 25);
        x.leave(5);
        x.put(5, 2, 1);
        isAt("7 in the last room", x, 5, 2, 1, 0, 23);
    }

    /** A head may be as high as 130 and, since knees may be more than inches, as low as -20. */
    private static void heads() {
        LowHeads x = Check.housed("room 40,0;person 50 90 40 0;person 40 20 40 0;");
        x.put(0, 0, 0);
        x.put(1, 0, 1);
        Check.due("7 the highest head", x.person(0, 7), 130);
        Check.due("7 as high as inches", x.person(1, 7), 20);
        x.bend(1, 20);
        Check.due("7 head 0", x.person(1, 7), 0);
        x.bend(1, 21);
        Check.due("7 head below 0", x.person(1, 7), -1);
        Check.due("7 is somewhere still", x.person(1, 4), 0);
        x.bend(1, 40);
        Check.due("7 the lowest head", x.person(1, 7), -20);
        Check.changesNothing("7 a head", Houses::livedIn, y -> y.person(3, 7));
    }

    private static void unknown() {
        for (int p : Check.outOf(0, 5)) {
            Check.refused("7 person " + p, Houses::livedIn, x -> x.person(p, 0), LowHeads.UNKNOWN);
            Check.refused("7 head of person " + p, Houses::livedIn, x -> x.person(p, 7), LowHeads.UNKNOWN);
            Check.refused("7 person " + p + " ahead of what", Houses::livedIn, x -> x.person(p, 8), LowHeads.UNKNOWN);
        }
        LowHeads one = Check.housed("room 1;person 5 30 1 1;");
        Check.due("7 the only person", one.person(0, 0), 5);
        Check.due("7 no second person", one.person(1, 0), LowHeads.UNKNOWN);
    }

    private static void outside() {
        Check.allRefused("7 what", Check.outOf(0, 7), Houses::livedIn, n -> x -> x.person(0, n), LowHeads.OUTSIDE);
        Check.allRefused("7 what of one nowhere", Check.outOf(0, 7), Houses::livedIn, n -> x -> x.person(4, n), LowHeads.OUTSIDE);
    }
}
