/** Promises 22 to 29: books, draws, images. */
public final class BooksTest {
    private static final String HOUSE = "room 0,10,20;room 5,5,5,5,5;person 30 40 9 0;person 20 50 9 2;";
    private static final String NARROW = "room 30,30,0;person 30 40 0 0;person 60 40 0 0;";

    private BooksTest() {
    }

    public static void main(String[] args) {
        write();
        tear();
        judge();
        drift();
        driftMoves();
        empty();
        seed();
        images();
        Check.end();
    }

    private static LowHeads made() {
        LowHeads x = Check.housed(HOUSE);
        x.put(0, 0, 1);
        x.seed(99);
        x.write(1, 0, 0);
        return x;
    }

    private static LowHeads full() {
        LowHeads x = made();
        for (int i = 2; i <= 20; i++) {
            x.write(0, 1, 4);
        }
        return x;
    }

    private static void write() {
        LowHeads x = Check.housed(HOUSE);
        for (int i = 1; i <= 20; i++) {
            Check.due("22 write", x.write(i % 2, 1, 4), i);
        }
        Check.due("22 how many", x.told(5), 20);
        Check.refused("22 full", BooksTest::full, y -> y.write(0, 0, 0), LowHeads.FULL);
        Check.refused("22 unknown ahead of full", BooksTest::full, y -> y.write(2, 0, 0), LowHeads.UNKNOWN);
        Check.refused("22 no person", BooksTest::made, y -> y.write(-1, 0, 0), LowHeads.UNKNOWN);
        Check.refused("22 no room", BooksTest::made, y -> y.write(0, 2, 0), LowHeads.UNKNOWN);
        Check.refused("22 no place", BooksTest::made, y -> y.write(0, 0, 3), LowHeads.UNKNOWN);
        Check.refused("22 no place -1", BooksTest::made, y -> y.write(0, 0, -1), LowHeads.UNKNOWN);
    }

    private static void tear() {
        LowHeads x = full();
        Check.due("23 tear", x.tear(), 20);
        Check.due("23 tear again", x.tear(), 0);
        Check.due("23 told", x.told(5), 0);
        Check.due("23 write", x.write(0, 0, 0), 1);
    }

    private static void judge() {
        LowHeads x = Check.housed(NARROW);
        Check.due("24 an empty book", x.judge(0), LowHeads.NONE);
        Check.due("24 an empty book", x.judge(1), 0);
        x.put(1, 0, 1);
        x.write(0, 0, 1);
        Check.due("24 from empty rooms on", x.judge(0), LowHeads.NONE);
        x.write(1, 0, 2);
        Check.due("24 who leaves", x.judge(1), 1);
        x.write(0, 0, 0);
        Check.due("24 who left can come", x.judge(0), LowHeads.NONE);
        Check.due("24 and leaves again", x.judge(1), 2);
        x.write(1, 0, 0);
        x.write(0, 0, 0);
        Check.due("24 is somewhere already", x.judge(0), 3);
        Check.due("24 moves till then", x.judge(1), 2);
        Check.due("24 nobody has moved", x.told(6), 2);
        x.tear();
        x.write(1, 0, 2);
        x.write(0, 0, 2);
        Check.due("24 the place is not free", x.judge(0), 1);
        Check.refused("24 what 2", BooksTest::made, y -> y.judge(2), LowHeads.OUTSIDE);
        Check.refused("24 what -1", BooksTest::made, y -> y.judge(-1), LowHeads.OUTSIDE);
        Check.refused("24 changes nothing", BooksTest::made, y -> y.judge(0), LowHeads.NONE);
    }

    private static void isAt(LowHeads x, String what, int p, int r, int place) {
        Check.due(what + ": room of " + p, x.person(p, 4), r);
        Check.due(what + ": place of " + p, x.person(p, 5), place);
    }

    private static void drift() {
        LowHeads x = Check.housed(HOUSE);
        Check.due("25 once", x.drift(1), 0);
        isAt(x, "25 once", 0, 0, 1);
        Check.due("25 seed", x.seed(654583775), 654583775);
        Check.due("25 a place that is not free", x.drift(1), 0);
        isAt(x, "25 a place that is not free", 1, LowHeads.NONE, LowHeads.NONE);
        Check.due("25 twice", x.drift(2), 0);
        isAt(x, "25 twice", 0, LowHeads.NONE, LowHeads.NONE);
        isAt(x, "25 twice", 1, 1, 2);
        Check.due("25 seed", x.seed(0), 551188310);
        x.seed(2147483647);
        x.empty();
        x.drift(1);
        isAt(x, "25 the greatest seed", 1, 1, 2);
        for (int n : new int[] {0, -1, 100, -2147483648}) {
            Check.refused("25 drift " + n, BooksTest::made, y -> y.drift(n), LowHeads.OUTSIDE);
            Check.refused("25 outside ahead of not, " + n, LowHeads::new, y -> y.drift(n), LowHeads.OUTSIDE);
        }
        Check.refused("25 no house", LowHeads::new, y -> y.drift(1), LowHeads.NOT);
        Check.refused("25 no persons", () -> Check.housed("room 1;"), y -> y.drift(1), LowHeads.NOT);
        Check.refused("25 no rooms", () -> Check.housed("person 1 30 1 1;"), y -> y.drift(99), LowHeads.NOT);
    }

    private static void driftMoves() {
        LowHeads x = Check.housed(NARROW);
        Check.due("25 one comes, one cannot", x.drift(2), 0);
        Check.due("25 an elder comes", x.drift(1), 1);
        Check.due("25 who is there", x.told(6), 2);
        Check.due("25 comes and leaves", x.drift(1), 1);
        Check.due("25 leaving by draw is no move", x.drift(1), 0);
        Check.due("25 who is there", x.told(6), 0);
        x.seed(0);
        Check.due("25 all of that", x.drift(5), 2);
        LowHeads y = Check.housed("room 0,0;person 60 40 5 0;person 30 45 9 0;");
        y.come(0, 0, 0);
        y.come(1, 0, 1);
        Check.due("25 bent", y.person(1, 6), 5);
        y.drift(1);
        Check.due("25 left by draw", y.told(6), 2);
        Check.due("25 all there bow", y.person(1, 6), 0);
    }

    private static void empty() {
        LowHeads x = made();
        x.put(1, 1, 4);
        x.bend(1, 9);
        Check.due("26 two", x.empty(), 2);
        Check.due("26 nobody", x.empty(), 0);
        Check.due("26 told", x.told(6), 0);
        Check.due("26 no bends", x.person(1, 6), 0);
        Check.due("26 the place is free", x.room(1, 4, 1), LowHeads.NONE);
        Check.due("26 the book stays", x.told(5), 1);
        Check.due("26 the seed stays", x.seed(0), 99);
    }

    private static void seed() {
        LowHeads x = new LowHeads();
        Check.due("27 at first", x.seed(5), 0);
        Check.due("27 was", x.seed(2147483647), 5);
        Check.due("27 the greatest", x.seed(0), 2147483647);
        Check.refused("27 below 0", BooksTest::made, y -> y.seed(-1), LowHeads.OUTSIDE);
        Check.refused("27 far below 0", BooksTest::made, y -> y.seed(-2147483648), LowHeads.OUTSIDE);
    }

    private static void images() {
        LowHeads x = made();
        x.put(1, 1, 4);
        x.bend(1, 7);
        x.law(1);
        Check.due("28 keep 0", x.keep(0), 1);
        String kept = Check.picture(x);
        x.year(5);
        x.leave(0);
        x.bend(1, 3);
        x.law(0);
        x.drift(9);
        Check.due("28 keep 1", x.keep(1), 1);
        String later = Check.picture(x);
        Check.due("29 back to 0", x.goBack(0), 1);
        Check.same("29 all as kept", Check.picture(x), kept);
        x.empty();
        Check.due("29 forth to 1", x.goBack(1), 1);
        Check.same("29 all as kept later", Check.picture(x), later);
        x.write(0, 0, 0);
        Check.due("29 back to 0 again", x.goBack(0), 1);
        Check.due("29 no image keeps the book", x.told(5), 2);
        x.keep(1);
        x.goBack(1);
        x.tear();
        x.write(1, 0, 0);
        Check.same("28 an image kept anew", Check.picture(x), kept);
        for (int i : new int[] {-1, 2, 2147483647, -2147483648}) {
            Check.refused("28 no image " + i, BooksTest::made, y -> y.keep(i), LowHeads.UNKNOWN);
            Check.refused("29 no image " + i, BooksTest::made, y -> y.goBack(i), LowHeads.UNKNOWN);
        }
        Check.refused("29 not kept 0", BooksTest::made, y -> y.goBack(0), LowHeads.NOT);
        Check.refused("29 not kept 1", BooksTest::made, y -> y.goBack(1), LowHeads.NOT);
    }
}
