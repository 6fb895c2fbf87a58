/** Houses and states that several tests begin with. */
final class Houses {
    /** 3 rooms of 6, 1 and 2 places, 6 persons, 5 friendships. */
    static final String BIG = "room 0,10,20,30,40,5;room 7;room 3,3;person 70 60 5 0;person 40 66 8 0;"
        + "person 12 50 20 3;person 30 72 4 0;person 99 90 40 9;person 0 20 0 1;"
        + "friends 0 2 9;friends 1 3 20;friends 3 2 5;friends 4 5 99;friends 0 5 1;";
    static final String SIX_PERSONS = "person 1 30 1 1;person 2 30 1 1;person 3 30 1 1;person 4 30 1 1;person 5 30 1 1;"
        + "person 6 30 1 1;";

    /** Floors for the rooms in which nothing happens. */
    static final String[] OTHER_FLOORS = {"40", "0", "0,1,2,3,4,5", "40,39,38,37,36,35"};

    private Houses() {
    }

    static LowHeads big() {
        return Check.housed(BIG);
    }

    /**
     * BIG with something of everything but a text: a fault of an earlier text at byte 7, image 0,
     * law 1, one year behind, persons 0 and 3 in room 0, 5 in room 1, 2 in room 2 (1 and 4 are
     * nowhere), bends, a book of two comings.
     */
    static LowHeads settled() {
        LowHeads x = big();
        Check.fed(x, "room 1,x;").house();
        x.put(0, 0, 1);
        x.put(3, 0, 4);
        x.bend(3, 2);
        x.seed(4711);
        x.keep(0);
        x.law(1);
        x.year(1);
        x.put(2, 2, 1);
        x.bend(2, 20);
        x.put(5, 1, 0);
        x.write(4, 0, 0);
        x.write(1, 0, 0);
        return x;
    }

    /** The same with a text of seven bytes. */
    static LowHeads livedIn() {
        return Check.fed(settled(), "room 9;");
    }

    /** All fifteen friendships of six persons, each of the same weight. */
    static String allFriends(int weight) {
        StringBuilder all = new StringBuilder();
        for (int p = 0; p < 6; p++) {
            for (int q = 0; q < p; q++) {
                all.append("friends ").append(p).append(' ').append(q).append(' ').append(weight).append(';');
            }
        }
        return all.toString();
    }

    /** Three rooms: this one as the r-th, the others with other floors. */
    static String withRoom(int r, String floors, String otherFloors) {
        StringBuilder text = new StringBuilder();
        for (int k = 0; k < 3; k++) {
            text.append("room ").append(k == r ? floors : otherFloors).append(';');
        }
        return text.toString();
    }

    static String blanks(int n) {
        return " ".repeat(n);
    }
}
