/** Promise 17, party: the least sum of BENDS, the first PLACES of like ones, NONE; UNKNOWN. */
public final class Promise17Test {
    private Promise17Test() {
    }

    public static void main(String[] args) {
        nobody();
        oneAlone();
        soManyPlaces();
        kneesJustEnough();
        kneesOfOneOfTwo();
        floorsInAnyOrder();
        theGreatestSum();
        theLeastSum();
        inEveryRoom();
        theFirstOfLikeOnes();
        likeOnesByPersonNotByAge();
        sumAheadOfPlaces();
        byLaw();
        asGrown();
        whoIsThereNow();
        unknown();
        nothingChanges();
        Check.end();
    }

    private static void isParty(String what, LowHeads x, int r, int set, int sum, int... places) {
        Check.due(what + ": sum", x.party(r, set, LowHeads.NONE), sum);
        for (int p = 0; p < places.length; p++) {
            Check.due(what + ": place of " + p, x.party(r, set, p), places[p]);
        }
    }

    private static final int NO = LowHeads.NONE;

    private static void nobody() {
        LowHeads x = Houses.livedIn();
        for (int r = 0; r < 3; r++) {
            isParty("17 nobody", x, r, 0, 0, NO, NO, NO, NO, NO, NO);
        }
    }

    private static void oneAlone() {
        for (int p = 0; p < 6; p++) {
            LowHeads x = Houses.big();
            for (int r = 0; r < 3; r++) {
                int[] due = {NO, NO, NO, NO, NO, NO};
                due[p] = 0;
                isParty("17 one alone", x, r, 1 << p, 0, due);
            }
        }
    }

    private static void soManyPlaces() {
        String floors = "0";
        for (int places = 1; places <= 6; places++) {
            LowHeads x = Check.housed("room " + floors + ";" + Houses.SIX_PERSONS);
            for (int guests = 0; guests <= 6; guests++) {
                int set = (1 << guests) - 1;
                Check.due("17 " + guests + " at " + places, x.party(0, set, NO), guests <= places ? 0 : NO);
                Check.due("17 the last of " + guests + " at " + places, x.party(0, set, 5), guests == 6 && places == 6 ? 5 : NO);
                Check.due("17 the first of " + guests + " at " + places, x.party(0, set, 0), guests > 0 && guests <= places ? 0 : NO);
            }
            floors += ",0";
        }
        LowHeads x = Houses.big();
        Check.due("17 two at one", x.party(1, 3, NO), NO);
        Check.due("17 three at two", x.party(2, 56, NO), NO);
    }

    private static void kneesJustEnough() {
        for (int knees = 8; knees <= 12; knees++) {
            LowHeads x = Check.housed("room 0,10;person 90 50 0 0;person 50 70 " + knees + " 0;");
            if (knees < 10) {
                isParty("17 knees " + knees + " for 10", x, 0, 3, NO, NO, NO);
            } else {
                isParty("17 knees " + knees + " for 10", x, 0, 3, 10, 1, 0);
            }
        }
    }

    /** Who has no knees must have the lowest floor, though a lesser place would be as cheap for both. */
    private static void kneesOfOneOfTwo() {
        LowHeads x = Check.housed("room 5,0,10;person 30 60 0 0;person 40 60 40 0;person 90 50 0 0;");
        isParty("17 knees of the other", x, 0, 7, 5, 1, 0, 2);
        x = Check.housed("room 5,0,10;person 30 60 5 0;person 40 60 40 0;person 90 50 0 0;");
        isParty("17 knees of both", x, 0, 7, 5, 0, 1, 2);
        x = Check.housed("room 5,0,10;person 30 60 4 0;person 40 60 4 0;person 90 50 0 0;");
        isParty("17 knees of neither", x, 0, 7, NO, NO, NO, NO);
    }

    private static void floorsInAnyOrder() {
        String persons = "person 90 50 0 0;person 50 60 0 0;";
        isParty("17 the lowest is last", Check.housed("room 20,0;" + persons), 0, 3, 0, 0, 1);
        isParty("17 the lowest is first", Check.housed("room 0,20;" + persons), 0, 3, 0, 1, 0);
        isParty("17 the lowest is between", Check.housed("room 20,0,11;" + persons), 0, 3, 0, 0, 1);
        isParty("17 the lowest but one will do", Check.housed("room 20,10,0;" + persons), 0, 3, 0, 0, 1);
        isParty("17 the lowest alone will do", Check.housed("room 20,11,10;" + persons), 0, 3, 0, 0, 2);
        isParty("17 none is low enough", Check.housed("room 20,11,12;" + persons), 0, 3, NO, NO, NO);
        for (int lowest = 1; lowest < 6; lowest++) {
            String floors = "20,20,20,20,20,20".substring(0, 3 * lowest) + "0" + ",20,20,20,20,20".substring(0, 15 - 3 * lowest);
            isParty("17 the lowest is " + lowest, Check.housed("room " + floors + ";" + persons), 0, 3, 0, 0, lowest);
        }
    }

    private static void theGreatestSum() {
        String five = "person 10 90 40 0;person 11 90 40 0;person 12 90 40 0;person 13 90 40 0;";
        LowHeads x = Check.housed("room 0,0,0,0,0,0;" + five + "person 14 90 40 0;person 15 50 0 0;");
        isParty("17 all knees of five", x, 0, 63, 200, 0, 1, 2, 3, 4, 5);
        x = Check.housed("room 0,0,0,0,0,0;" + five + "person 14 90 39 0;person 15 50 0 0;");
        isParty("17 an inch of knees less", x, 0, 63, NO, NO, NO, NO, NO, NO, NO);
        isParty("17 without that one", x, 0, 47, 160, 0, 1, 2, 3, NO, 4);
    }

    private static void theLeastSum() {
        LowHeads x = Check.housed("room 0,10,20;person 90 40 0 0;person 50 60 40 0;person 30 55 40 0;");
        isParty("17 the eldest is highest", x, 0, 7, 5, 2, 0, 1);
        isParty("17 two of three", x, 0, 5, 0, 2, NO, 0);
        isParty("17 two younger", x, 0, 6, 0, NO, 1, 0);
    }

    private static void inEveryRoom() {
        for (int r = 0; r < 3; r++) {
            for (String floors : Houses.OTHER_FLOORS) {
                LowHeads x = Check.housed(Houses.withRoom(r, "0,10,20", floors) + "person 90 40 0 0;person 50 60 40 0;person 30 55 40 0;");
                isParty("17 in room " + r, x, r, 7, 5, 2, 0, 1);
            }
        }
    }

    /** All floors alike: whatever the ages are, person by person the lesser place. */
    private static void theFirstOfLikeOnes() {
        LowHeads x = Check.housed("room 7,7,7,7,7,7;person 3 50 9 0;person 6 50 9 0;person 1 50 9 0;person 5 50 9 0;person 4 50 9 0;person 2 50 9 0;");
        isParty("17 all", x, 0, 63, 0, 0, 1, 2, 3, 4, 5);
        isParty("17 some", x, 0, 42, 0, NO, 0, NO, 1, NO, 2);
        isParty("17 the last two", x, 0, 48, 0, NO, NO, NO, NO, 0, 1);
    }

    /** Any places will do, or any but one: the youngest is person 0. */
    private static void likeOnesByPersonNotByAge() {
        LowHeads x = Check.housed("room 5,0,5;person 30 50 0 0;person 90 60 0 0;");
        isParty("17 any places", x, 0, 3, 0, 0, 1);
        LowHeads y = Check.housed("room 20,0,5;person 30 50 0 0;person 90 60 0 0;");
        isParty("17 person 0 cannot be at place 0", y, 0, 3, 0, 1, 0);
        LowHeads z = Check.housed("room 20,0,5;person 30 50 10 0;person 90 60 0 0;");
        isParty("17 nor is it worth it", z, 0, 3, 0, 1, 0);
    }

    private static void sumAheadOfPlaces() {
        LowHeads x = Check.housed("room 1,0;person 30 50 9 0;person 90 50 9 0;");
        isParty("17 a lesser place would cost an inch", x, 0, 3, 0, 1, 0);
        LowHeads y = Check.housed("room 0,1;person 90 50 9 0;person 30 50 9 0;");
        isParty("17 a lesser place would cost an inch", y, 0, 3, 0, 1, 0);
    }

    private static void byLaw() {
        for (int knees = 9; knees <= 11; knees++) {
            LowHeads x = Check.housed("room 0,0,0;person 90 60 0 0;person 50 40 0 0;person 30 50 " + knees + " 0;");
            Check.due("17 law 0", x.party(0, 7, NO), 0);
            x.law(1);
            Check.due("17 law 1, knees " + knees, x.party(0, 7, NO), knees < 10 ? NO : 10);
            x.law(0);
            Check.due("17 law 0 again", x.party(0, 7, NO), 0);
        }
        LowHeads y = Check.housed("room 0,10,20;person 50 60 5 0;person 40 60 10 0;person 30 60 20 0;");
        isParty("17 law 0, the first", y, 0, 7, 0, 2, 0, 1);
        y.law(1);
        isParty("17 law 1, the first", y, 0, 7, 0, 2, 1, 0);
    }

    private static void asGrown() {
        LowHeads x = Check.housed("room 0,0;person 90 60 0 0;person 18 60 3 2;");
        Check.due("17 now", x.party(0, 3, NO), 0);
        x.year(1);
        Check.due("17 behind a year", x.party(0, 3, NO), 2);
        x.keep(0);
        x.year(1);
        Check.due("17 behind two years", x.party(0, 3, NO), NO);
        x.goBack(0);
        Check.due("17 back", x.party(0, 3, NO), 2);
    }

    private static void whoIsThereNow() {
        LowHeads x = Check.housed("room 0,10;room 0;person 90 50 9 0;person 50 50 9 0;person 99 20 9 0;");
        isParty("17 empty", x, 0, 3, 0, 1, 0);
        x.put(2, 0, 1);
        x.put(1, 0, 0);
        x.bend(1, 9);
        isParty("17 places are taken", x, 0, 3, 0, 1, 0);
        x.put(0, 1, 0);
        isParty("17 one is elsewhere", x, 0, 3, 0, 1, 0);
        Check.due("17 nobody was moved", x.person(1, 5), 0);
        Check.due("17 nobody stood up", x.person(1, 6), 9);
    }

    private static void unknown() {
        Check.allRefused("17 room", Check.outOf(0, 2), Houses::livedIn, r -> x -> x.party(r, 1, NO), LowHeads.UNKNOWN);
        Check.allRefused("17 set", Check.outOf(0, 63), Houses::livedIn, s -> x -> x.party(0, s, NO), LowHeads.UNKNOWN);
        Check.allRefused("17 person", Check.outOf(-1, 5), Houses::livedIn, p -> x -> x.party(0, 1, p), LowHeads.UNKNOWN);
        Check.allRefused("17 person, nobody", Check.outOf(-1, 5), Houses::livedIn, p -> x -> x.party(0, 0, p), LowHeads.UNKNOWN);
        Check.allRefused("17 person, too many", Check.outOf(-1, 5), Houses::livedIn, p -> x -> x.party(1, 63, p), LowHeads.UNKNOWN);
        Check.refused("17 a bit above all of them", Houses::livedIn, x -> x.party(0, 65, 0), LowHeads.UNKNOWN);
        LowHeads two = Check.housed("room 0,0;person 1 30 1 1;person 2 30 1 1;");
        Check.due("17 both of two", two.party(0, 3, NO), 0);
        Check.due("17 a third of two", two.party(0, 4, NO), LowHeads.UNKNOWN);
        Check.due("17 place of a third", two.party(0, 3, 2), LowHeads.UNKNOWN);
        LowHeads none = Check.housed("room 0,0;");
        Check.due("17 nobody of none", none.party(0, 0, NO), 0);
        Check.due("17 one of none", none.party(0, 1, NO), LowHeads.UNKNOWN);
        Check.due("17 place of one of none", none.party(0, 0, 0), LowHeads.UNKNOWN);
    }

    private static void nothingChanges() {
        Check.changesNothing("17 all", Houses::livedIn, x -> x.party(0, 63, NO));
        Check.changesNothing("17 some", Houses::livedIn, x -> x.party(2, 6, 1));
        Check.changesNothing("17 too many", Houses::livedIn, x -> x.party(1, 3, NO));
    }
}
