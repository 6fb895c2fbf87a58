/** Promises 1 to 9: the house, its text and its faults. */
public final class HouseTest {
    private static final String HOUSE = "room 0,10,20;room 5,5;person 70 60 5 0;person 40 66 8 0;"
        + "person 12 50 20 3;person 30 72 4 0;friends 0 2 9;friends 1 3 20;friends 3 2 5;";

    private HouseTest() {
    }

    public static void main(String[] args) {
        newObject();
        feed();
        house();
        houseForgets();
        fault();
        faultsOfRooms();
        faultsOfPersons();
        faultsOfFriends();
        faultsOfCounts();
        told();
        room();
        person();
        friends();
        law();
        Check.end();
    }

    private static LowHeads made() {
        LowHeads x = Check.housed(HOUSE);
        x.put(0, 0, 1);
        x.put(3, 0, 2);
        x.bend(3, 4);
        return x;
    }

    private static void newObject() {
        LowHeads x = new LowHeads();
        for (int what = 0; what <= 6; what++) {
            Check.due("1 told " + what + " of a new object", x.told(what), 0);
        }
        Check.due("1 no room", x.room(0, LowHeads.NONE, 0), LowHeads.UNKNOWN);
        Check.due("1 no person", x.person(0, 0), LowHeads.UNKNOWN);
        Check.due("1 no fault yet", x.fault(), LowHeads.NONE);
        Check.due("1 the seed is 0", x.seed(0), 0);
        Check.due("1 NONE", LowHeads.NONE, -1);
        Check.due("1 UNKNOWN", LowHeads.UNKNOWN, -1000000001);
        Check.due("1 OUTSIDE", LowHeads.OUTSIDE, -1000000002);
        Check.due("1 NOT", LowHeads.NOT, -1000000003);
        Check.due("1 FULL", LowHeads.FULL, -1000000004);
    }

    private static void feed() {
        LowHeads x = new LowHeads();
        Check.due("2 two bytes of a long that has more", x.feed(2, 0x7878787878787020L | 0x726fL << 48), 2);
        Check.due("2 one byte more", x.feed(1, 'x'), 3);
        Check.due("2 the highest first: 'p x' has its fault at 0", x.house(), -11);
        Check.due("2 emptied", x.told(3), 0);
        Check.fed(x, "room 7;");
        Check.due("2 in its order", x.house(), 0);
        Check.due("2 in its order", x.room(0, 0, 0), 7);
        for (int n : new int[] {0, -1, 9, 2147483647, -2147483648}) {
            Check.refused("2 feed of " + n, HouseTest::made, y -> y.feed(n, 32), LowHeads.OUTSIDE);
        }
        for (int i = 1; i <= 62; i++) {
            Check.due("2 blanks", x.feed(8, 0x2020202020202020L), 8 * i);
        }
        Check.due("2 four too many", x.feed(8, 0), LowHeads.FULL);
        Check.due("2 one too many", x.feed(5, 0), LowHeads.FULL);
        Check.due("2 outside ahead of full", x.feed(9, 0), LowHeads.OUTSIDE);
        Check.due("2 nothing was taken", x.told(3), 496);
        Check.due("2 just so many", x.feed(4, 0x20202020L), 500);
        Check.due("2 501", x.feed(1, 32), LowHeads.FULL);
        Check.due("2 500 blanks are an empty house", x.house(), 0);
        Check.due("2 no rooms", x.told(0), 0);
    }

    private static void house() {
        LowHeads x = Check.fed(new LowHeads(), HOUSE);
        Check.due("3 persons", x.house(), 4);
        Check.due("3 text is empty", x.told(3), 0);
        Check.due("3 friends", x.told(2), 3);
        Check.due("3 an empty text", x.house(), 0);
        Check.due("3 is an empty house", x.told(0), 0);
        x = Check.fed(new LowHeads(), "  room0 , 001,40 ;person99 20 0 9;  person 0 090 40 0;friends 1 000 99;friends");
        Check.due("3 ends in 'friends'", x.house(), -11);
        Check.due("3 at the end", x.fault(), 78);
        x = Check.housed("  room0 , 001,40 ;person99 20 0 9;  person 0 090 40 0;friends 1 000 99;  ");
        Check.due("3 blanks and bounds", x.told(1), 2);
        Check.due("3 places", x.room(0, LowHeads.NONE, 0), 3);
        Check.due("3 001", x.room(0, 1, 0), 1);
        Check.due("3 either way round", x.friends(0, 1), 99);
        x = Check.housed("room 0,1,2,3,4,40;room 40;room 7;person 1 30 1 1;person 2 30 1 1;person 3 30 1 1;"
            + "person 4 30 1 1;person 5 30 1 1;person 99 90 40 9;" + allFriends());
        Check.due("3 all rooms", x.told(0), 3);
        Check.due("3 all persons", x.told(1), 6);
        Check.due("3 all friends", x.told(2), 15);
        Check.due("3 all places", x.room(0, 5, 0), 40);
        Check.due("3 the last of friends", x.friends(5, 4), 1);
    }

    private static String allFriends() {
        StringBuilder all = new StringBuilder();
        for (int p = 0; p < 6; p++) {
            for (int q = 0; q < p; q++) {
                all.append("friends ").append(p).append(' ').append(q).append(" 1;");
            }
        }
        return all.toString();
    }

    private static void houseForgets() {
        LowHeads x = made();
        x.law(1);
        x.seed(77);
        x.keep(0);
        x.write(0, 0, 0);
        x.year(3);
        Check.fed(x, "room 1;person 5 30 1 x;");
        String ahead = Check.picture(x);
        Check.due("3 a fault", x.house(), -11);
        Check.due("3 text is empty behind a fault too", x.told(3), 0);
        Check.due("3 at", x.fault(), 21);
        Check.fed(x, "room 1;person 5 30 1 x;");
        Check.same("3 all is as it was", Check.picture(x), ahead);
        Check.due("3 a fault again", x.house(), -11);
        Check.due("3 the image is there still", x.goBack(0), 1);
        Check.fed(x, HOUSE);
        Check.due("3 a house", x.house(), 4);
        Check.due("3 no fault now", x.fault(), LowHeads.NONE);
        Check.due("3 nobody is anywhere", x.told(6), 0);
        Check.due("3 no bends", x.person(3, 6), 0);
        Check.due("3 no book", x.told(5), 0);
        Check.due("3 images are gone", x.goBack(0), LowHeads.NOT);
        Check.due("3 law stays", x.told(4), 1);
        Check.due("3 seed stays", x.seed(0), 77);
        Check.due("3 ages as told", x.person(2, 0), 12);
        Check.due("3 inches as told", x.person(2, 1), 50);
        Check.fed(x, "room 3;person 70 60 5 0;person 40 66 8 0;person 12 50 20 3;");
        Check.due("3 a smaller house", x.house(), 3);
        Check.due("3 one room less", x.room(1, LowHeads.NONE, 0), LowHeads.UNKNOWN);
        Check.due("3 nobody comes to it", x.put(0, 1, 0), LowHeads.UNKNOWN);
        Check.due("3 one person less", x.person(3, 0), LowHeads.UNKNOWN);
        Check.due("3 no friends now", x.friends(0, 2), 0);
        Check.due("3 no friends now", x.told(2), 0);
    }

    private static void isFault(String text, int number, int at) {
        LowHeads x = Check.fed(new LowHeads(), text);
        Check.due("4 house of '" + text + "'", x.house(), -10 - number);
        Check.due("4 fault of '" + text + "'", x.fault(), at);
        Check.due("4 no house of '" + text + "'", x.told(0) + x.told(1) + x.told(2), 0);
    }

    private static void fault() {
        isFault("roo", 1, 0);
        isFault("rooms 1;", 1, 0);
        isFault("rooma 1;", 1, 0);
        isFault("roomz 1;", 1, 0);
        isFault("  Room 1;", 1, 2);
        isFault("ro om 1;", 1, 0);
        isFault(";", 1, 0);
        isFault("5;", 1, 0);
        isFault("room 1;;", 1, 7);
        isFault("room 1; x", 1, 8);
        isFault("room 1;\troom 1;", 1, 7);
        isFault("room 1;" + (char) 160, 1, 7);
        isFault("room 1;" + (char) 0, 1, 7);
        isFault("roomperson 1;", 1, 0);
        isFault("room", 1, 4);
        isFault("room  ", 1, 6);
    }

    private static void faultsOfRooms() {
        isFault("room;", 1, 4);
        isFault("room room 1;", 1, 5);
        isFault("room ,1;", 1, 5);
        isFault("room 1,;", 1, 7);
        isFault("room 1,,2;", 1, 7);
        isFault("room 1 2;", 1, 7);
        isFault("room 1 2345;", 1, 7);
        isFault("room 1", 1, 6);
        isFault("room 1 ", 1, 7);
        isFault("room 1person 1 30 1 1;", 1, 6);
        isFault("room -1;", 1, 5);
        isFault("room 41;", 2, 5);
        isFault("room 41", 2, 5);
        isFault("room 0001;", 2, 5);
        isFault("room 1, 99999999999999999999;", 2, 8);
        isFault("room 1,2,3,4,5,6, 7;", 4, 18);
        isFault("room 1,2,3,4,5,6,41;", 2, 17);
        isFault("room 1,2,3,4,5,6,;", 1, 17);
    }

    private static void faultsOfPersons() {
        isFault("person 100 30 1 1;", 2, 7);
        isFault("person 1 19 1 1;", 2, 9);
        isFault("person 1 91 1 1;", 2, 9);
        isFault("person 1 30 41 1;", 2, 12);
        isFault("person 1 30 1 10;", 2, 14);
        isFault("person 1 30 1;", 1, 13);
        isFault("person 1 30 1 1 1;", 1, 16);
        isFault("person 1,30 1 1;", 1, 8);
        isFault("person 1 30 1 1", 1, 15);
        isFault("person 5 30 1 1;person 05 30 1 1;", 4, 23);
        isFault("person 5 30 1 1;person 5 99 1 1;", 4, 23);
        isFault("person 5 30 1 1;person 6 99 1 1;", 2, 25);
    }

    private static void faultsOfFriends() {
        String two = "person 5 30 1 1;person 6 30 1 1;";
        isFault("friends 0 1 1;", 2, 8);
        isFault(two + "friends 0 2 1;", 2, 42);
        isFault(two + "friends 2 0 1;", 2, 40);
        isFault(two + "friends 1 1 1;", 4, 42);
        isFault(two + "friends 2 2 1;", 2, 40);
        isFault(two + "friends 0 1 0;", 2, 44);
        isFault(two + "friends 0 1 100;", 2, 44);
        isFault(two + "friends 0 1;", 1, 43);
        isFault(two + "friends 0 1 1;friends 1 0 1;", 4, 56);
        isFault(two + "friends 0 1 1;friends 0 1 500;", 4, 56);
        isFault("person 5 30 1 1;friends 0 1 1;person 6 30 1 1;", 2, 26);
    }

    private static void faultsOfCounts() {
        isFault("room 1;room 1;room 1; room 99;", 3, 22);
        isFault("room 1;room 1;room 1;rooms 99;", 1, 21);
        String six = "person 1 30 1 1;person 2 30 1 1;person 3 30 1 1;person 4 30 1 1;person 5 30 1 1;person 6 30 1 1;";
        isFault(six + "person 1 30 1 1;", 3, 96);
        isFault(six + allFriends() + "friends 0 1 1;", 3, 96 + 15 * 14);
    }

    private static void told() {
        LowHeads x = made();
        x.law(1);
        x.write(0, 0, 0);
        x.write(0, 0, 0);
        x.feed(3, 0);
        int[] due = {2, 4, 3, 3, 1, 2, 9};
        for (int what = 0; what <= 6; what++) {
            Check.due("5 told " + what, x.told(what), due[what]);
        }
        Check.refused("5 told -1", HouseTest::made, y -> y.told(-1), LowHeads.OUTSIDE);
        Check.refused("5 told 7", HouseTest::made, y -> y.told(7), LowHeads.OUTSIDE);
    }

    private static void room() {
        LowHeads x = made();
        Check.due("6 places of 0", x.room(0, LowHeads.NONE, 0), 3);
        Check.due("6 places of 1", x.room(1, LowHeads.NONE, 1), 2);
        Check.due("6 floor", x.room(0, 2, 0), 20);
        Check.due("6 who", x.room(0, 2, 1), 3);
        Check.due("6 nobody", x.room(0, 0, 1), LowHeads.NONE);
        Check.refused("6 no room", HouseTest::made, y -> y.room(2, 0, 9), LowHeads.UNKNOWN);
        Check.refused("6 no room -1", HouseTest::made, y -> y.room(-1, LowHeads.NONE, 0), LowHeads.UNKNOWN);
        Check.refused("6 no place, ahead of what", HouseTest::made, y -> y.room(1, 2, 9), LowHeads.UNKNOWN);
        Check.refused("6 no place -2", HouseTest::made, y -> y.room(1, -2, 0), LowHeads.UNKNOWN);
        Check.refused("6 what 2", HouseTest::made, y -> y.room(1, 0, 2), LowHeads.OUTSIDE);
        Check.refused("6 what -1", HouseTest::made, y -> y.room(1, 0, -1), LowHeads.OUTSIDE);
    }

    private static void person() {
        LowHeads x = made();
        int[] here = {30, 72, 4, 0, 0, 2, 4, 88};
        int[] nowhere = {12, 50, 20, 3, LowHeads.NONE, LowHeads.NONE, 0, LowHeads.NONE};
        for (int what = 0; what <= 7; what++) {
            Check.due("7 person 3, " + what, x.person(3, what), here[what]);
            Check.due("7 person 2, " + what, x.person(2, what), nowhere[what]);
        }
        Check.refused("7 no person, ahead of what", HouseTest::made, y -> y.person(4, 8), LowHeads.UNKNOWN);
        Check.refused("7 no person -1", HouseTest::made, y -> y.person(-1, 0), LowHeads.UNKNOWN);
        Check.refused("7 what 8", HouseTest::made, y -> y.person(0, 8), LowHeads.OUTSIDE);
        Check.refused("7 what -1", HouseTest::made, y -> y.person(0, -1), LowHeads.OUTSIDE);
    }

    private static void friends() {
        LowHeads x = made();
        Check.due("8 as told", x.friends(3, 2), 5);
        Check.due("8 turned", x.friends(2, 3), 5);
        Check.due("8 none", x.friends(0, 1), 0);
        Check.refused("8 one twice", HouseTest::made, y -> y.friends(1, 1), LowHeads.UNKNOWN);
        Check.refused("8 no person", HouseTest::made, y -> y.friends(0, 4), LowHeads.UNKNOWN);
        Check.refused("8 no person -1", HouseTest::made, y -> y.friends(-1, 0), LowHeads.UNKNOWN);
    }

    private static void law() {
        LowHeads x = made();
        Check.due("9 was 0", x.law(1), 0);
        Check.due("9 was 1", x.law(1), 1);
        Check.due("9 was 1 still", x.law(0), 1);
        Check.due("9 is 0", x.told(4), 0);
        Check.refused("9 law 2", HouseTest::made, y -> y.law(2), LowHeads.OUTSIDE);
        Check.refused("9 law -1", HouseTest::made, y -> y.law(-1), LowHeads.OUTSIDE);
    }
}
