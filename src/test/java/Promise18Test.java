/** Promise 18, feast: the least sum of BENDS, then the most W, then the first ROOMS; NONE; UNKNOWN. */
public final class Promise18Test {
    private static final int NO = LowHeads.NONE;

    private Promise18Test() {
    }

    public static void main(String[] args) {
        nobody();
        noRooms();
        soManyPlaces();
        eachPartMustBe();
        floorsInAnyOrder();
        bendsAheadOfFriends();
        friendsAheadOfRooms();
        theFirstOfLikeOnes();
        theGreatestSums();
        inEveryRoom();
        whoIsNotOfIt();
        byLaw();
        asGrown();
        asAllHaveGrown();
        asOldAsTallBefore();
        anotherHouse();
        whoIsThereNow();
        unknown();
        nothingChanges();
        Check.end();
    }

    private static void isFeast(String what, LowHeads x, int set, int bends, int friends, int... rooms) {
        Check.due(what + ": bends", x.feast(set, NO), bends);
        Check.due(what + ": friends", x.feast(set, -2), friends);
        for (int p = 0; p < rooms.length; p++) {
            Check.due(what + ": room of " + p, x.feast(set, p), rooms[p]);
        }
    }

    private static void nobody() {
        isFeast("18 nobody", Houses.livedIn(), 0, 0, 0, NO, NO, NO, NO, NO, NO);
        isFeast("18 nobody, no persons", Check.housed("room 0;"), 0, 0, 0);
        isFeast("18 nobody, no rooms", Check.housed(Houses.SIX_PERSONS), 0, 0, 0, NO, NO, NO, NO, NO, NO);
    }

    private static void noRooms() {
        LowHeads x = Check.housed(Houses.SIX_PERSONS + "friends 0 1 9;");
        isFeast("18 one, no rooms", x, 1, NO, NO, NO, NO, NO, NO, NO, NO);
        isFeast("18 all, no rooms", x, 63, NO, NO, NO, NO, NO, NO, NO, NO);
    }

    /** Persons with more and more places: as many as places can be, one more cannot. */
    private static void soManyPlaces() {
        String[] rooms = {"room 0;", "room 0;room 0;", "room 0;room 0;room 0;", "room 0,0;room 0;room 0;", "room 0,0;room 0,0;room 0;",
            "room 0,0,0;room 0,0;room 0;"};
        for (int places = 1; places <= 6; places++) {
            LowHeads x = Check.housed(rooms[places - 1] + Houses.SIX_PERSONS);
            for (int guests = 0; guests <= 6; guests++) {
                int set = (1 << guests) - 1;
                int due = guests <= places ? 0 : NO;
                Check.due("18 " + guests + " at " + places, x.feast(set, NO), due);
                Check.due("18 friends of " + guests + " at " + places, x.feast(set, -2), due);
                Check.due("18 room of the first of " + guests, x.feast(set, 0), guests == 0 ? NO : due);
            }
        }
        LowHeads all = Check.housed("room 0;room 0,0,0;room 0,0;" + Houses.SIX_PERSONS);
        isFeast("18 six at six", all, 63, 0, 0, 0, 1, 1, 1, 2, 2);
    }

    /** Two that cannot be in one room are dealt to two; where there is one room alone it cannot be. */
    private static void eachPartMustBe() {
        String persons = "person 90 50 0 0;person 50 60 9 0;";
        isFeast("18 one room", Check.housed("room 0,0;" + persons), 3, NO, NO, NO, NO);
        isFeast("18 two rooms", Check.housed("room 0,0;room 0,0;" + persons), 3, 0, 0, 0, 1);
        isFeast("18 knees are just enough", Check.housed("room 0,0;person 90 50 0 0;person 50 60 10 0;"), 3, 10, 0, 0, 0);
    }

    private static void floorsInAnyOrder() {
        String persons = "person 90 50 0 0;person 50 60 0 0;";
        isFeast("18 the lowest is last", Check.housed("room 20,0;" + persons), 3, 0, 0, 0, 0);
        isFeast("18 the lowest is first", Check.housed("room 0,20;" + persons), 3, 0, 0, 0, 0);
        isFeast("18 none is low enough", Check.housed("room 20,11,11,12;" + persons), 3, NO, NO, NO, NO);
        for (int lowest = 1; lowest < 6; lowest++) {
            String floors = "20,20,20,20,20,20".substring(0, 3 * lowest) + "0" + ",20,20,20,20,20".substring(0, 15 - 3 * lowest);
            isFeast("18 the lowest is " + lowest, Check.housed("room " + floors + ";" + persons), 3, 0, 0, 0, 0);
        }
        isFeast("18 knees of neither", Check.housed("room 5,0,10;person 30 60 4 0;person 40 60 4 0;person 90 50 0 0;"), 7, NO, NO, NO, NO, NO);
    }

    private static void bendsAheadOfFriends() {
        LowHeads x = Check.housed("room 0,0;room 0,0;person 90 50 0 0;person 50 51 9 0;friends 0 1 99;");
        isFeast("18 one inch ahead of 99", x, 3, 0, 0, 0, 1);
        LowHeads y = Check.housed("room 0,0;room 0,0;person 90 50 0 0;person 50 50 9 0;friends 0 1 1;");
        isFeast("18 no inch, friends of 1", y, 3, 0, 1, 0, 0);
    }

    private static void friendsAheadOfRooms() {
        String rooms = "room 0;room 0,0;";
        String persons = "person 30 50 0 0;person 40 50 0 0;person 50 50 0 0;";
        isFeast("18 no friends", Check.housed(rooms + persons), 7, 0, 0, 0, 1, 1);
        isFeast("18 0 and 2", Check.housed(rooms + persons + "friends 0 2 1;"), 7, 0, 1, 1, 0, 1);
        isFeast("18 0 and 1", Check.housed(rooms + persons + "friends 1 0 2;friends 0 2 1;"), 7, 0, 2, 1, 1, 0);
        isFeast("18 like friends: the first", Check.housed(rooms + persons + "friends 0 1 2;friends 0 2 2;"), 7, 0, 2, 1, 0, 1);
        isFeast("18 one more than like", Check.housed(rooms + persons + "friends 0 1 3;friends 0 2 2;"), 7, 0, 3, 1, 1, 0);
    }

    private static void theFirstOfLikeOnes() {
        LowHeads x = Check.housed("room 0,0,0,0,0,0;room 0;room 0;" + Houses.SIX_PERSONS);
        isFeast("18 all in the first room", x, 63, 0, 0, 0, 0, 0, 0, 0, 0);
        LowHeads y = Check.housed("room 0;room 0;room 0,0;" + Houses.SIX_PERSONS);
        isFeast("18 the first rooms first", y, 30, 0, 0, NO, 0, 1, 2, 2, NO);
        isFeast("18 the last person alone", y, 32, 0, 0, NO, NO, NO, NO, NO, 0);
    }

    private static void theGreatestSums() {
        LowHeads x = Check.housed("room 0,0,0,0,0,0;" + Houses.SIX_PERSONS + Houses.allFriends(99));
        isFeast("18 all friends in one room", x, 63, 0, 15 * 99, 0, 0, 0, 0, 0, 0);
        LowHeads y = Check.housed("room 0,0,0,0,0,0;person 10 90 40 0;person 11 90 40 0;person 12 90 40 0;person 13 90 40 0;"
            + "person 14 90 40 0;person 15 50 0 0;");
        isFeast("18 all knees of five", y, 63, 200, 0, 0, 0, 0, 0, 0, 0);
    }

    /** All six in the large room would have to bend; without the eldest, who is short, nobody has to. */
    private static void inEveryRoom() {
        String persons = "person 10 51 1 0;person 11 51 1 0;person 12 51 1 0;person 13 51 1 0;person 14 51 1 0;person 15 50 0 0;";
        for (int r = 0; r < 3; r++) {
            for (int law = 0; law <= 1; law++) {
                LowHeads x = Check.housed(Houses.withRoom(r, "7,7,7,7,7,7", "40") + persons + Houses.allFriends(9));
                x.law(law);
                isFeast("18 the large room is " + r, x, 63, 0, 90, r, r, r, r, r, r == 0 ? 1 : 0);
                LowHeads y = Check.housed(Houses.withRoom(r, "7,7,7,7,7,7", "40") + Houses.SIX_PERSONS + Houses.allFriends(9));
                y.law(law);
                isFeast("18 all in room " + r, y, 63, 0, 135, r, r, r, r, r, r);
            }
        }
    }

    private static void whoIsNotOfIt() {
        LowHeads x = Check.housed("room 0,0;room 0,0;" + Houses.SIX_PERSONS + Houses.allFriends(9));
        isFeast("18 two of six", x, 34, 0, 9, NO, 0, NO, NO, NO, 0);
        isFeast("18 one of six", x, 4, 0, 0, NO, NO, 0, NO, NO, NO);
        isFeast("18 five of six cannot", x, 31, NO, NO, NO, NO, NO, NO, NO, NO);
    }

    private static void byLaw() {
        LowHeads x = Check.housed("room 0,0,0;person 90 60 0 0;person 50 40 0 0;person 30 50 10 0;");
        Check.due("18 law 0", x.feast(7, NO), 0);
        x.law(1);
        Check.due("18 law 1", x.feast(7, NO), 10);
        x.law(0);
        Check.due("18 law 0 again", x.feast(7, NO), 0);
    }

    private static void asGrown() {
        for (int child = 0; child < 6; child++) {
            StringBuilder text = new StringBuilder("room 0,0,0,0,0,0;");
            for (int p = 0; p < 6; p++) {
                text.append("person ").append(p == child ? "18 60 3 2;" : (90 + p) + " 60 0 0;");
            }
            LowHeads x = Check.housed(text.toString());
            Check.due("18 now", x.feast(63, NO), 0);
            x.keep(0);
            x.year(1);
            Check.due("18 behind a year", x.feast(63, NO), 2);
            x.keep(1);
            x.year(1);
            Check.due("18 behind two years", x.feast(63, NO), NO);
            x.goBack(0);
            Check.due("18 back", x.feast(63, NO), 0);
            x.goBack(1);
            Check.due("18 forth", x.feast(63, NO), 2);
        }
    }

    /** Nobody is as tall as before: five are two inches taller than the eldest then. */
    private static void asAllHaveGrown() {
        LowHeads x = Check.housed("room 0,0,0,0,0,0;person 10 50 9 3;person 11 50 9 3;person 12 50 9 3;person 13 50 9 3;person 14 50 9 3;"
            + "person 15 50 9 1;");
        Check.due("18 now", x.feast(63, NO), 0);
        x.year(1);
        Check.due("18 all have grown", x.feast(63, NO), 10);
        x.year(1);
        Check.due("18 all have grown again", x.feast(63, NO), 20);
    }

    /** Ten years later all ages are what the inches were when the first feast was asked for. */
    private static void asOldAsTallBefore() {
        LowHeads x = Check.housed("room 0,0;person 10 20 40 9;person 60 70 0 0;");
        Check.due("18 now", x.feast(3, NO), 0);
        x.year(10);
        Check.due("18 the child is 90 inches", x.feast(3, NO), 20);
    }

    /** What was found for one house says nothing of the next, whatever is alike in both. */
    private static void anotherHouse() {
        String[] texts = {"room 0,0;person 90 50 0 0;person 50 60 10 0;", "room 0,9;person 90 50 0 0;person 50 60 10 0;",
            "room 0,9;person 40 50 0 0;person 50 60 10 0;", "room 0;person 40 50 0 0;person 50 60 10 0;",
            "room 0,0;person 90 50 0 0;person 50 60 9 0;", "room 0,0;person 90 50 0 0;person 50 60 11 0;"};
        int[] due = {10, 1, 0, NO, NO, 10};
        LowHeads x = new LowHeads();
        for (int k = 0; k < texts.length; k++) {
            Check.fed(x, texts[k]).house();
            Check.due("18 of '" + texts[k] + "'", x.feast(3, NO), due[k]);
        }
        Check.fed(x, "room 0,0;?").house();
        Check.due("18 behind a fault", x.feast(3, NO), 10);
    }

    private static void whoIsThereNow() {
        LowHeads x = Check.housed("room 0,0;person 90 50 9 0;person 50 50 9 0;person 99 20 9 0;");
        x.put(2, 0, 1);
        x.put(1, 0, 0);
        x.bend(1, 9);
        isFeast("18 places are taken", x, 3, 0, 0, 0, 0, NO);
        Check.due("18 nobody was moved", x.person(1, 5), 0);
        Check.due("18 nobody stood up", x.person(1, 6), 9);
    }

    private static void unknown() {
        Check.allRefused("18 set", Check.outOf(0, 63), Houses::livedIn, s -> x -> x.feast(s, NO), LowHeads.UNKNOWN);
        Check.allRefused("18 set, friends", Check.outOf(0, 63), Houses::livedIn, s -> x -> x.feast(s, -2), LowHeads.UNKNOWN);
        Check.allRefused("18 person", Check.outOf(-2, 5), Houses::livedIn, p -> x -> x.feast(1, p), LowHeads.UNKNOWN);
        Check.allRefused("18 person, nobody", Check.outOf(-2, 5), Houses::livedIn, p -> x -> x.feast(0, p), LowHeads.UNKNOWN);
        LowHeads two = Check.housed("room 0;person 1 30 1 1;person 2 30 1 1;");
        Check.due("18 one of two", two.feast(2, 1), 0);
        Check.due("18 a third of two", two.feast(4, NO), LowHeads.UNKNOWN);
        Check.due("18 room of a third", two.feast(1, 2), LowHeads.UNKNOWN);
        Check.due("18 room of a third, too many", two.feast(3, 2), LowHeads.UNKNOWN);
    }

    private static void nothingChanges() {
        Check.changesNothing("18 all", Houses::livedIn, x -> x.feast(63, NO));
        Check.changesNothing("18 some", Houses::livedIn, x -> x.feast(21, -2) + x.feast(7, 1));
    }
}
