/** Promises 17 to 21: parties, feasts, cuts, lawful till, seen. */
public final class PartiesTest {
    private static final String HOUSE = "room 0,10,20,30;room 5;person 80 60 0 0;person 50 40 0 0;person 20 50 5 0;person 10 50 20 2;";

    private PartiesTest() {
    }

    public static void main(String[] args) {
        party();
        partyByLaw();
        feast();
        feastOfFriends();
        feastFollowsWhatChanges();
        cuts();
        till();
        seen();
        seenAges();
        seenByLaw();
        Check.end();
    }

    private static LowHeads made() {
        LowHeads x = Check.housed(HOUSE);
        x.put(1, 0, 0);
        x.put(2, 0, 1);
        return x;
    }

    private static void party() {
        LowHeads x = Check.housed("room 0,30;room 7;person 50 20 0 0;person 40 60 35 0;person 30 90 40 0;");
        x.put(2, 0, 0);
        Check.due("17 the least sum", x.party(0, 3, LowHeads.NONE), 10);
        Check.due("17 place of 0", x.party(0, 3, 0), 1);
        Check.due("17 place of 1", x.party(0, 3, 1), 0);
        Check.due("17 not of it", x.party(0, 3, 2), LowHeads.NONE);
        Check.due("17 nobody", x.party(0, 0, LowHeads.NONE), 0);
        Check.due("17 nobody's place", x.party(0, 0, 0), LowHeads.NONE);
        Check.due("17 alone: the least place", x.party(0, 4, 2), 0);
        Check.due("17 too many", x.party(1, 3, LowHeads.NONE), LowHeads.NONE);
        Check.due("17 too many", x.party(1, 3, 0), LowHeads.NONE);
        Check.due("17 90 beside 50", x.party(0, 5, LowHeads.NONE), 40);
        x.year(1);
        Check.fed(x, "room 0,30;person 50 20 0 0;person 40 60 9 0;");
        x.house();
        Check.due("17 knees are too few", x.party(0, 3, LowHeads.NONE), LowHeads.NONE);
        Check.due("17 knees are too few", x.party(0, 3, 1), LowHeads.NONE);
        Check.refused("17 no room", PartiesTest::made, y -> y.party(2, 1, -1), LowHeads.UNKNOWN);
        Check.refused("17 no room -1", PartiesTest::made, y -> y.party(-1, 1, -1), LowHeads.UNKNOWN);
        Check.refused("17 a bit of nobody", PartiesTest::made, y -> y.party(0, 16, -1), LowHeads.UNKNOWN);
        Check.refused("17 below 0", PartiesTest::made, y -> y.party(0, -1, -1), LowHeads.UNKNOWN);
        Check.refused("17 no person", PartiesTest::made, y -> y.party(0, 1, 4), LowHeads.UNKNOWN);
        Check.refused("17 no person -2", PartiesTest::made, y -> y.party(0, 1, -2), LowHeads.UNKNOWN);
        Check.refused("17 changes nothing", PartiesTest::made, y -> y.party(0, 15, -1), 0);
    }

    private static void partyByLaw() {
        LowHeads x = Check.housed("room 0,10,20;person 50 60 5 0;person 40 60 10 0;person 30 60 20 0;");
        int[][] due = {{2, 0, 1}, {2, 1, 0}};
        for (int law = 0; law <= 1; law++) {
            x.law(law);
            Check.due("17 law " + law, x.party(0, 7, LowHeads.NONE), 0);
            for (int p = 0; p < 3; p++) {
                Check.due("17 law " + law + ", place of " + p, x.party(0, 7, p), due[law][p]);
            }
        }
    }

    private static void feast() {
        LowHeads x = Check.housed("room 0;room 0,0;person 50 60 5 0;person 40 62 10 0;person 30 61 20 0;person 20 90 0 0;"
            + "friends 0 1 7;friends 1 2 9;");
        x.put(3, 1, 0);
        Check.due("18 bends", x.feast(7, LowHeads.NONE), 0);
        Check.due("18 friends", x.feast(7, -2), 9);
        Check.due("18 room of 0", x.feast(7, 0), 0);
        Check.due("18 room of 1", x.feast(7, 1), 1);
        Check.due("18 room of 2", x.feast(7, 2), 1);
        Check.due("18 not of it", x.feast(7, 3), LowHeads.NONE);
        Check.due("18 bends ahead of friends", x.feast(3, -2), 0);
        Check.due("18 the lesser room", x.feast(3, 0), 0);
        Check.due("18 the other room", x.feast(3, 1), 1);
        Check.due("18 nobody", x.feast(0, LowHeads.NONE), 0);
        Check.due("18 nobody's friends", x.feast(0, -2), 0);
        Check.due("18 nobody's room", x.feast(0, 0), LowHeads.NONE);
        Check.due("18 too many", x.feast(15, LowHeads.NONE), LowHeads.NONE);
        Check.due("18 too many", x.feast(15, -2), LowHeads.NONE);
        Check.due("18 too many", x.feast(15, 0), LowHeads.NONE);
        LowHeads none = Check.housed("person 50 60 5 0;");
        Check.due("18 no rooms", none.feast(1, LowHeads.NONE), LowHeads.NONE);
        Check.due("18 no rooms, nobody", none.feast(0, LowHeads.NONE), 0);
        Check.refused("18 a bit of nobody", PartiesTest::made, y -> y.feast(16, -1), LowHeads.UNKNOWN);
        Check.refused("18 below 0", PartiesTest::made, y -> y.feast(-2147483648, -1), LowHeads.UNKNOWN);
        Check.refused("18 no person", PartiesTest::made, y -> y.feast(1, 4), LowHeads.UNKNOWN);
        Check.refused("18 no person -3", PartiesTest::made, y -> y.feast(1, -3), LowHeads.UNKNOWN);
        Check.refused("18 changes nothing", PartiesTest::made, y -> y.feast(1, -1), 0);
    }

    private static void feastOfFriends() {
        LowHeads x = Check.housed("room 0,0;room 0,0;person 50 60 0 0;person 40 60 0 0;person 30 60 0 0;friends 0 2 5;friends 1 2 6;");
        Check.due("18 the greatest sum of friends", x.feast(7, -2), 6);
        Check.due("18 first of like ones", x.feast(7, 0), 0);
        Check.due("18 first of like ones", x.feast(7, 1), 1);
        Check.due("18 first of like ones", x.feast(7, 2), 1);
        Check.due("18 who is not of it has no friends", x.feast(3, -2), 0);
        Check.due("18 no friends: the lesser rooms", x.feast(3, 1), 0);
    }

    /** Law, years and images change what a feast costs, also when it was asked for before. */
    private static void feastFollowsWhatChanges() {
        LowHeads x = Check.housed("room 0,0,0;person 50 60 9 0;person 40 58 9 0;person 10 59 9 2;");
        Check.due("18 law 0", x.feast(7, LowHeads.NONE), 0);
        x.law(1);
        Check.due("18 law 1", x.feast(7, LowHeads.NONE), 1);
        x.keep(0);
        x.year(2);
        Check.due("18 grown", x.feast(7, LowHeads.NONE), 5);
        x.law(0);
        Check.due("18 grown, law 0", x.feast(7, LowHeads.NONE), 3);
        x.goBack(0);
        Check.due("18 back", x.feast(7, LowHeads.NONE), 1);
        Check.fed(x, "room 0,9,0;person 50 60 9 0;person 40 58 9 0;person 10 59 9 2;");
        x.house();
        Check.due("18 another house", x.feast(7, LowHeads.NONE), 1);
        Check.fed(x, "room 0,0,0;person 50 60 9 0;person 9 58 9 0;person 10 59 9 2;");
        x.house();
        Check.due("18 other ages", x.feast(7, LowHeads.NONE), 0);
        Check.fed(x, "room 0,0;person 10 59 9 2;person 50 60 9 0;");
        x.house();
        Check.due("18 a child", x.feast(3, LowHeads.NONE), 0);
        x.year(3);
        Check.due("18 the first of all has grown", x.feast(3, LowHeads.NONE), 5);
    }

    private static void cuts() {
        LowHeads x = Check.housed(HOUSE);
        Check.due("19 law 0", x.cuts(0, 15), 5);
        x.law(1);
        Check.due("19 law 1", x.cuts(0, 15), 25);
        Check.due("19 the k-th of it at place k", x.cuts(0, 12), 0);
        Check.due("19 nobody", x.cuts(0, 0), 0);
        Check.due("19 one", x.cuts(1, 8), 0);
        Check.due("19 not so many places", x.cuts(1, 3), LowHeads.NONE);
        LowHeads six = Check.housed("room 0,0,0,0,0,0;person 60 50 0 0;person 10 51 0 0;person 20 52 0 0;"
            + "person 30 53 1 0;person 40 54 1 0;person 50 55 1 0;");
        Check.due("19 six", six.cuts(0, 63), 1 + 2 + 2 + 3 + 4);
        x.put(1, 0, 0);
        Check.due("19 who is there now does not count", x.cuts(0, 12), 0);
        LowHeads y = Check.housed("room 40,0;person 10 90 0 0;person 90 20 40 0;");
        Check.due("19 below 0", y.cuts(0, 3), 110);
        Check.refused("19 no room", PartiesTest::made, z -> z.cuts(2, 1), LowHeads.UNKNOWN);
        Check.refused("19 no room -1", PartiesTest::made, z -> z.cuts(-1, 1), LowHeads.UNKNOWN);
        Check.refused("19 a bit of nobody, ahead of none", PartiesTest::made, z -> z.cuts(1, 19), LowHeads.UNKNOWN);
        Check.refused("19 below 0", PartiesTest::made, z -> z.cuts(0, -1), LowHeads.UNKNOWN);
        Check.refused("19 changes nothing", PartiesTest::made, z -> z.cuts(0, 15), 5);
    }

    private static void till() {
        LowHeads x = Check.housed("room 0;room 0,0,0;person 60 60 10 0;person 10 50 5 2;person 19 89 0 9;");
        Check.due("20 nobody there", x.till(), 60);
        x.put(0, 1, 0);
        x.put(1, 1, 1);
        Check.due("20 six years", x.till(), 6);
        x.bend(1, 5);
        Check.due("20 bends are as they are", x.till(), 8);
        x.bend(1, 0);
        x.bend(0, 10);
        Check.due("20 one year", x.till(), 1);
        Check.due("20 nothing grew", x.person(1, 1), 50);
        x.put(2, 1, 2);
        Check.due("20 now", x.till(), 0);
        x.leave(0);
        Check.due("20 grown up at 20, 90 at most", x.till(), 60);
        x.law(1);
        Check.due("20 none", x.till(), 60);
    }

    private static void seen() {
        LowHeads x = Check.housed("room 0,0,30;person 70 60 9 0;person 40 61 9 0;person 10 30 0 0;");
        x.put(0, 0, 0);
        Check.due("21 no fault", x.seen(0, 0), 0);
        Check.due("21 no fault", x.seen(0, 1), 0);
        x.put(1, 0, 1);
        Check.due("21 suspects", x.seen(0, 0), 3);
        Check.due("21 heels", x.seen(0, 1), 2);
        x.put(2, 0, 2);
        Check.due("21 suspects beside a third", x.seen(0, 0), 3);
        x.bend(0, 1);
        Check.due("21 heels of more than an inch", x.seen(0, 1), 0);
        Check.due("21 ages stay", x.person(0, 0), 70);
        Check.due("21 inches stay", x.person(1, 1), 61);
        Check.refused("21 no room, ahead of what", PartiesTest::made, y -> y.seen(2, 2), LowHeads.UNKNOWN);
        Check.refused("21 no room -1", PartiesTest::made, y -> y.seen(-1, 0), LowHeads.UNKNOWN);
        Check.refused("21 what 2", PartiesTest::made, y -> y.seen(0, 2), LowHeads.OUTSIDE);
        Check.refused("21 what -1, no fault", PartiesTest::made, y -> y.seen(1, -1), LowHeads.OUTSIDE);
        Check.refused("21 changes nothing", PartiesTest::made, y -> y.seen(0, 0), 6);
    }

    private static int suspects(int elder, int younger, int third, boolean thirdIsThere) {
        LowHeads x = Check.housed("room 0,0,0;room 0;person " + elder + " 60 9 0;person " + younger + " 61 9 0;person " + third + " 30 0 0;");
        x.put(0, 0, 0);
        x.put(1, 0, 1);
        x.put(2, thirdIsThere ? 0 : 1, thirdIsThere ? 2 : 0);
        return x.seen(0, 0);
    }

    private static void seenAges() {
        Check.due("21 nobody can be older than 99", suspects(99, 50, 10, true), 1);
        Check.due("21 99 is an age", suspects(98, 50, 10, true), 3);
        Check.due("21 0 is an age", suspects(50, 1, 10, false), 3);
        Check.due("21 one year between the others", suspects(50, 2, 0, true), 3);
        Check.due("21 nobody can be younger than 0", suspects(50, 0, 10, false), 2);
        Check.due("21 an age of somebody there", suspects(50, 1, 0, true), 2);
        Check.due("21 an age of somebody elsewhere", suspects(50, 1, 0, false), 3);
        LowHeads x = Check.housed("room 0,0;person 90 60 9 0;person 50 61 9 0;");
        x.put(0, 0, 0);
        x.put(1, 0, 1);
        x.year(9);
        Check.due("21 99 years", x.seen(0, 0), 1);
        x.year(50);
        Check.due("21 both above 99: the elder may be younger", x.seen(0, 0), 1);
    }

    private static void seenByLaw() {
        LowHeads x = Check.housed("room 0,0,0;person 70 60 9 0;person 40 50 9 0;person 10 55 0 0;");
        x.put(0, 0, 0);
        x.put(1, 0, 1);
        x.put(2, 0, 2);
        Check.due("21 law 0", x.seen(0, 0), 0);
        x.law(1);
        Check.due("21 law 1: between the others", x.seen(0, 0), 6);
        Check.due("21 law 1: heels", x.seen(0, 1), 0);
        LowHeads y = Check.housed("room 0,0,0;person 10 51 9 0;person 70 60 9 0;person 40 50 9 0;");
        y.law(1);
        for (int p = 0; p < 3; p++) {
            y.put(p, 0, p);
        }
        Check.due("21 law 1: the first of heels", y.seen(0, 1), 1);
    }
}
