/** Promise 19, cuts: the fewest inches by LAW, NONE: not so many PLACES; UNKNOWN. */
public final class Promise19Test {
    private static final int NO = LowHeads.NONE;

    private Promise19Test() {
    }

    public static void main(String[] args) {
        nobodyOrOne();
        soManyPlaces();
        kneesJustEnough();
        theEldestIsNotCut();
        belowNothing();
        theGreatestSum();
        inTheOrderOfTheSet();
        inEveryRoom();
        byLaw();
        asHighAsTheyAreLet();
        asGrown();
        whoIsThereNow();
        unknown();
        nothingChanges();
        Check.end();
    }

    private static void nobodyOrOne() {
        LowHeads x = Houses.livedIn();
        for (int r = 0; r < 3; r++) {
            Check.due("19 nobody", x.cuts(r, 0), 0);
            for (int p = 0; p < 6; p++) {
                Check.due("19 one", x.cuts(r, 1 << p), 0);
            }
        }
    }

    private static void soManyPlaces() {
        String floors = "0";
        for (int places = 1; places <= 6; places++) {
            LowHeads x = Check.housed("room " + floors + ";" + Houses.SIX_PERSONS);
            for (int set = 0; set < 64; set++) {
                Check.due("19 " + set + " at " + places, x.cuts(0, set), Integer.bitCount(set) <= places ? 0 : NO);
            }
            floors += ",0";
        }
        LowHeads x = Houses.big();
        Check.due("19 two at one", x.cuts(1, 33), NO);
        Check.due("19 three at two", x.cuts(2, 7), NO);
    }

    private static void kneesJustEnough() {
        for (int law = 0; law <= 1; law++) {
            for (int knees = 0; knees <= 12; knees++) {
                LowHeads x = Check.housed("room 0,10;person 90 50 0 0;person 50 50 " + knees + " 0;");
                x.law(law);
                Check.due("19 knees " + knees + " for 10", x.cuts(0, 3), Math.max(0, 10 - knees));
            }
        }
    }

    private static void theEldestIsNotCut() {
        LowHeads x = Check.housed("room 40,0;person 90 90 0 0;person 50 20 0 0;");
        Check.due("19 far above", x.cuts(0, 3), 0);
        LowHeads y = Check.housed("room 0,40;person 50 20 0 0;person 90 90 0 0;");
        Check.due("19 far above, the last", y.cuts(0, 3), 0);
    }

    private static void belowNothing() {
        LowHeads x = Check.housed("room 0,0;person 90 20 0 0;person 50 90 0 0;");
        Check.due("19 a floor of 0", x.cuts(0, 3), 70);
        LowHeads y = Check.housed("room 0,5;person 90 20 0 0;person 50 90 40 0;");
        Check.due("19 a floor of 5", y.cuts(0, 3), 35);
    }

    private static void theGreatestSum() {
        for (int law = 0; law <= 1; law++) {
            LowHeads x = Check.housed("room 0,40,40,40,40,40;person 99 20 40 0;person 11 90 0 0;person 12 90 0 0;person 13 90 0 0;"
                + "person 14 90 0 0;person 15 90 0 0;");
            x.law(law);
            Check.due("19 five by 110", x.cuts(0, 63), 550);
            Check.due("19 four by 110", x.cuts(0, 31), 440);
        }
    }

    /** The k-th of the set is at place k: floors count by that. */
    private static void inTheOrderOfTheSet() {
        LowHeads x = Check.housed("room 0,10,20;person 10 50 0 0;person 90 50 0 0;person 80 50 0 0;person 70 50 0 0;");
        Check.due("19 1 at 0, 3 at 1", x.cuts(0, 10), 10);
        Check.due("19 1 at 0, 2 at 1, 3 at 2", x.cuts(0, 14), 30);
        Check.due("19 0 at 0, 1 at 1", x.cuts(0, 3), 0);
        Check.due("19 0 at 0, 2 at 1, 3 at 2", x.cuts(0, 13), 10);
        Check.due("19 2 at 0, 3 at 1", x.cuts(0, 12), 10);
    }

    private static void inEveryRoom() {
        for (int r = 0; r < 3; r++) {
            for (String floors : Houses.OTHER_FLOORS) {
                LowHeads x = Check.housed(Houses.withRoom(r, "0,10,20", floors) + "person 90 50 0 0;person 80 50 4 0;person 70 50 3 0;");
                Check.due("19 three in room " + r, x.cuts(r, 7), 6 + 17);
                Check.due("19 two in room " + r, x.cuts(r, 5), 7);
            }
        }
    }

    private static void byLaw() {
        int[][] due = {{0, 0, 0, 0, 0, 0, 0}, {5, 4, 3, 2, 1, 0, 0}};
        for (int law = 0; law <= 1; law++) {
            for (int knees = 0; knees <= 6; knees++) {
                LowHeads x = Check.housed("room 0,0,0;person 90 60 0 0;person 50 50 40 0;person 30 55 " + knees + " 0;");
                x.law(law);
                Check.due("19 law " + law + ", knees " + knees, x.cuts(0, 7), due[law][knees]);
            }
        }
    }

    /** Those ahead bend no more than they must, and where they are cut they are as high as they are let. */
    private static void asHighAsTheyAreLet() {
        for (int law = 0; law <= 1; law++) {
            LowHeads x = Check.housed("room 0,0,0;person 90 60 0 0;person 50 70 20 0;person 30 65 4 0;");
            x.law(law);
            Check.due("19 one bends to 60", x.cuts(0, 7), 1);
            LowHeads y = Check.housed("room 0,0,0;person 90 60 0 0;person 50 70 5 0;person 30 65 4 0;");
            y.law(law);
            Check.due("19 one is cut to 60", y.cuts(0, 7), 5 + 1);
            LowHeads z = Check.housed("room 0,0,0;person 90 60 0 0;person 50 70 0 0;person 30 60 0 0;");
            z.law(law);
            Check.due("19 as high as the one that is cut", z.cuts(0, 7), 10);
        }
        LowHeads x = Check.housed("room 0,0,0;person 30 60 0 0;person 90 60 0 0;person 50 40 40 0;");
        x.law(1);
        Check.due("19 one that could bend stands at 40", x.cuts(0, 7), 20);
    }

    private static void asGrown() {
        LowHeads x = Check.housed("room 0,0;person 90 60 0 0;person 18 60 3 2;");
        int[] due = {0, 0, 1, 1};
        for (int years = 0; years < 4; years++) {
            Check.due("19 behind " + years, x.cuts(0, 3), due[years]);
            x.year(1);
        }
    }

    private static void whoIsThereNow() {
        LowHeads x = Check.housed("room 0,10;person 90 50 9 0;person 50 50 9 0;person 99 20 9 0;");
        x.put(2, 0, 0);
        x.put(0, 0, 1);
        x.bend(0, 9);
        Check.due("19 places are taken", x.cuts(0, 3), 1);
        Check.due("19 nobody was moved", x.person(0, 5), 1);
        Check.due("19 nobody stood up", x.person(0, 6), 9);
        Check.due("19 no floor was cut", x.room(0, 1, 0), 10);
    }

    private static void unknown() {
        Check.allRefused("19 room", Check.outOf(0, 2), Houses::livedIn, r -> x -> x.cuts(r, 1), LowHeads.UNKNOWN);
        Check.allRefused("19 set", Check.outOf(0, 63), Houses::livedIn, s -> x -> x.cuts(0, s), LowHeads.UNKNOWN);
        Check.allRefused("19 set ahead of none", Check.outOf(0, 63), Houses::livedIn, s -> x -> x.cuts(1, s), LowHeads.UNKNOWN);
        LowHeads two = Check.housed("room 0;person 1 30 1 1;person 2 30 1 1;");
        Check.due("19 both of two", two.cuts(0, 3), NO);
        Check.due("19 a third of two", two.cuts(0, 4), LowHeads.UNKNOWN);
        Check.due("19 a third and more", two.cuts(0, 7), LowHeads.UNKNOWN);
    }

    private static void nothingChanges() {
        Check.changesNothing("19 all", Houses::livedIn, x -> x.cuts(0, 63));
        Check.changesNothing("19 too many", Houses::livedIn, x -> x.cuts(1, 63));
    }
}
