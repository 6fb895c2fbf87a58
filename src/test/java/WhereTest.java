/** Promises 10 to 16: who is where, heads, law, bowing, years, comings. */
public final class WhereTest {
    private static final String HOUSE = "room 0,10,20,30;room 5;person 80 60 0 0;person 50 40 0 0;person 20 50 5 0;person 10 50 20 2;";

    private WhereTest() {
    }

    public static void main(String[] args) {
        put();
        leave();
        bend();
        first();
        bow();
        bowOfSix();
        year();
        come();
        comeMovesTheEldestFirst();
        comeTakesTheLeastOfLikePlaces();
        Check.end();
    }

    /** Persons 0 to 3 have heads of 70, 40, 70 and 80 inches in room 0. */
    private static LowHeads made() {
        LowHeads x = Check.housed(HOUSE);
        x.put(0, 0, 1);
        x.put(1, 0, 0);
        x.put(2, 0, 2);
        x.put(3, 0, 3);
        return x;
    }

    private static LowHeads withOneAway() {
        LowHeads x = made();
        x.leave(3);
        return x;
    }

    private static void put() {
        LowHeads x = Check.housed(HOUSE);
        Check.due("10 put", x.put(2, 0, 3), 4);
        Check.due("10 put beside", x.put(0, 0, 0), 5);
        Check.due("10 put elsewhere", x.put(1, 1, 0), 2);
        Check.due("10 room", x.person(2, 4), 0);
        Check.due("10 place", x.person(2, 5), 3);
        Check.due("10 head", x.person(2, 7), 80);
        x.bend(2, 5);
        x.leave(2);
        x.put(2, 0, 3);
        Check.due("10 bend is 0", x.person(2, 6), 0);
        Check.refused("10 no person", WhereTest::made, y -> y.put(4, 0, 0), LowHeads.UNKNOWN);
        Check.refused("10 no person -1", WhereTest::made, y -> y.put(-1, 0, 0), LowHeads.UNKNOWN);
        Check.refused("10 no room", WhereTest::made, y -> y.put(0, 2, 0), LowHeads.UNKNOWN);
        Check.refused("10 no place, ahead of not", WhereTest::made, y -> y.put(0, 1, 1), LowHeads.UNKNOWN);
        Check.refused("10 no place -1", WhereTest::made, y -> y.put(0, 1, -1), LowHeads.UNKNOWN);
        Check.refused("10 is somewhere", WhereTest::made, y -> y.put(0, 1, 0), LowHeads.NOT);
        Check.refused("10 not free", WhereTest::withOneAway, y -> y.put(3, 0, 0), LowHeads.NOT);
    }

    private static void leave() {
        LowHeads x = made();
        x.bow(0);
        Check.due("11 bent", x.person(3, 6), 10);
        Check.due("11 leaves", x.leave(0), 0);
        Check.due("11 others stay bent", x.person(3, 6), 10);
        x.put(0, 1, 0);
        Check.due("11 leaves room 1", x.leave(0), 1);
        Check.due("11 is nowhere", x.person(0, 4), LowHeads.NONE);
        Check.due("11 has no place", x.person(0, 5), LowHeads.NONE);
        Check.due("11 has no head", x.person(0, 7), LowHeads.NONE);
        Check.due("11 its place is free", x.room(0, 1, 1), LowHeads.NONE);
        Check.due("11 leaves", x.leave(3), 0);
        Check.due("11 has no bend", x.person(3, 6), 0);
        Check.refused("11 no person", WhereTest::made, y -> y.leave(4), LowHeads.UNKNOWN);
        Check.refused("11 no person -1", WhereTest::made, y -> y.leave(-1), LowHeads.UNKNOWN);
        Check.refused("11 is nowhere", WhereTest::withOneAway, y -> y.leave(3), LowHeads.NOT);
    }

    private static void bend() {
        LowHeads x = made();
        Check.due("12 was 0", x.bend(3, 20), 0);
        Check.due("12 was 20", x.bend(3, 7), 20);
        Check.due("12 head", x.person(3, 7), 73);
        Check.due("12 no knees", x.bend(0, 0), 0);
        Check.refused("12 no person, ahead of bounds", WhereTest::made, y -> y.bend(4, -1), LowHeads.UNKNOWN);
        Check.refused("12 too far", WhereTest::made, y -> y.bend(3, 21), LowHeads.OUTSIDE);
        Check.refused("12 below 0", WhereTest::made, y -> y.bend(3, -1), LowHeads.OUTSIDE);
        Check.refused("12 outside ahead of nowhere", WhereTest::withOneAway, y -> y.bend(3, 21), LowHeads.OUTSIDE);
        Check.refused("12 nowhere", WhereTest::withOneAway, y -> y.bend(3, 0), LowHeads.NOT);
    }

    private static void first() {
        LowHeads x = made();
        Check.due("13 law 0", x.first(0, 0), 3);
        Check.due("13 law 0 by", x.first(0, 1), 10);
        x.law(1);
        Check.due("13 law 1", x.first(0, 0), 2);
        Check.due("13 law 1: the most of all older", x.first(0, 1), 30);
        Check.due("13 an empty room", x.first(1, 0), LowHeads.NONE);
        Check.due("13 an empty room by", x.first(1, 1), LowHeads.NONE);
        x.law(0);
        x.bend(3, 10);
        Check.due("13 as high is lawful", x.first(0, 0), LowHeads.NONE);
        Check.due("13 as high is lawful, by", x.first(0, 1), LowHeads.NONE);
        LowHeads y = Check.housed("room 0,1;person 9 50 0 0;person 8 50 0 0;");
        y.put(1, 0, 1);
        Check.due("13 alone", y.first(0, 0), LowHeads.NONE);
        y.put(0, 0, 0);
        Check.due("13 by one inch", y.first(0, 1), 1);
        Check.refused("13 no room, ahead of what", WhereTest::made, z -> z.first(2, 2), LowHeads.UNKNOWN);
        Check.refused("13 no room -1", WhereTest::made, z -> z.first(-1, 0), LowHeads.UNKNOWN);
        Check.refused("13 what 2", WhereTest::made, z -> z.first(0, 2), LowHeads.OUTSIDE);
        Check.refused("13 what -1", WhereTest::made, z -> z.first(0, -1), LowHeads.OUTSIDE);
    }

    private static void bends(LowHeads x, String what, int... due) {
        for (int p = 0; p < due.length; p++) {
            Check.due(what + ": bend of " + p, x.person(p, 6), due[p]);
        }
    }

    private static void bow() {
        LowHeads x = made();
        x.bend(2, 5);
        Check.due("14 law 0", x.bow(0), 0);
        bends(x, "14 law 0", 0, 0, 0, 10);
        x.law(1);
        Check.due("14 law 1", x.bow(0), 12);
        bends(x, "14 law 1", 0, 0, 5, 20);
        Check.due("14 an empty room", x.bow(1), 0);
        x.leave(0);
        x.leave(1);
        Check.due("14 the eldest does not bend", x.bow(0), 0);
        bends(x, "14 two", 0, 0, 0, 10);
        Check.refused("14 no room", WhereTest::made, y -> y.bow(2), LowHeads.UNKNOWN);
        Check.refused("14 no room -1", WhereTest::made, y -> y.bow(-1), LowHeads.UNKNOWN);
    }

    private static void bowOfSix() {
        LowHeads x = Check.housed("room 0,5,10,15,20,25;person 60 50 0 0;person 10 50 9 0;person 20 45 40 0;"
            + "person 30 40 40 0;person 40 35 40 0;person 50 26 40 0;");
        int[] places = {0, 5, 2, 3, 4, 1};
        for (int p = 0; p < 6; p++) {
            x.put(p, 0, places[p]);
        }
        Check.due("14 six, first by law 0", x.first(0, 0), 1);
        Check.due("14 six, by law 0", x.bow(0), 2);
        bends(x, "14 six, by law 0", 0, 9, 5, 5, 5, 0);
        x.law(1);
        Check.due("14 six, by law 1", x.bow(0), 2);
        bends(x, "14 six, by law 1", 0, 9, 24, 24, 24, 0);
        Check.due("14 six, who is too high still", x.first(0, 0), 1);
        Check.due("14 six, by how much", x.first(0, 1), 35);
    }

    private static void year() {
        LowHeads x = Check.housed("room 0,0;room 0,0;person 60 60 10 0;person 10 50 5 2;person 19 85 0 9;person 20 50 0 9;");
        x.put(0, 0, 0);
        x.put(1, 0, 1);
        x.bend(1, 1);
        Check.due("15 one year", x.year(1), 0);
        Check.due("15 grows", x.person(1, 1), 52);
        Check.due("15 older", x.person(1, 0), 11);
        Check.due("15 bends stay", x.person(1, 6), 1);
        Check.due("15 90 at most", x.person(2, 1), 90);
        Check.due("15 grown up at 20", x.person(3, 1), 50);
        Check.due("15 fault behind six years", x.year(5), 1);
        x.put(3, 1, 1);
        x.put(2, 1, 0);
        Check.due("15 no fault in room 1", x.first(1, 0), 2);
        Check.due("15 both rooms", x.year(60), 3);
        Check.due("15 grows till 20", x.person(1, 1), 70);
        Check.due("15 ages", x.person(0, 0), 126);
        for (int n : new int[] {0, -1, 61, 2147483647}) {
            Check.refused("15 years " + n, WhereTest::made, y -> y.year(n), LowHeads.OUTSIDE);
        }
    }

    private static void come() {
        LowHeads x = Check.housed(HOUSE);
        Check.due("16 alone", x.come(3, 0, 3), 0);
        Check.due("16 somebody older: down", x.come(1, 0, 0), 1);
        Check.due("16 where to", x.person(3, 5), 1);
        Check.due("16 all bow", x.person(3, 6), 20);
        Check.due("16 cannot stay", x.come(2, 0, 2), 1);
        Check.due("16 is nowhere", x.person(2, 4), LowHeads.NONE);
        Check.due("16 has no bend", x.person(2, 6), 0);
        Check.due("16 who is there", x.told(6), 10);
        Check.due("16 the eldest comes", x.come(0, 0, 2), 0);
        Check.due("16 nobody must bend", x.person(3, 6), 0);
        Check.refused("16 no person", WhereTest::made, y -> y.come(4, 0, 0), LowHeads.UNKNOWN);
        Check.refused("16 no room", WhereTest::made, y -> y.come(0, -1, 0), LowHeads.UNKNOWN);
        Check.refused("16 no place, ahead of not", WhereTest::made, y -> y.come(0, 0, 4), LowHeads.UNKNOWN);
        Check.refused("16 is somewhere", WhereTest::made, y -> y.come(0, 1, 0), LowHeads.NOT);
        Check.refused("16 not free", WhereTest::withOneAway, y -> y.come(3, 0, 0), LowHeads.NOT);
    }

    private static void comeMovesTheEldestFirst() {
        LowHeads x = Check.housed("room 0,5,40,40,30;room 0;person 90 40 0 0;person 50 40 5 0;person 30 40 5 0;person 29 30 9 0;");
        x.put(3, 1, 0);
        x.bend(3, 9);
        x.come(2, 0, 3);
        Check.due("16 two as high", x.come(1, 0, 2), 0);
        Check.due("16 moves of both", x.come(0, 0, 0), 3);
        Check.due("16 the elder is low", x.person(1, 5), 1);
        Check.due("16 the elder bends", x.person(1, 6), 5);
        Check.due("16 the younger left", x.person(2, 4), LowHeads.NONE);
        Check.due("16 nobody elsewhere bows", x.person(3, 6), 9);
    }

    private static void comeTakesTheLeastOfLikePlaces() {
        LowHeads x = Check.housed("room 40,0,10,10;person 90 50 0 0;person 50 40 0 0;person 30 30 0 0;");
        x.put(1, 0, 0);
        x.put(2, 0, 1);
        x.leave(2);
        x.come(0, 0, 1);
        Check.due("16 like floors: the least", x.person(1, 5), 2);
    }
}
