/** Promise 24, judge: from empty ROOMS on, WRONG (NONE) and MOVES till then; OUTSIDE. */
public final class Promise24Test {
    private static final int NO = LowHeads.NONE;

    private Promise24Test() {
    }

    public static void main(String[] args) {
        anEmptyBook();
        somewhereAlready();
        notFree();
        theLastIsWrong();
        theFirstOfTwoWrongs();
        movesTillThen();
        inEveryRoom();
        fromEmptyRoomsOn();
        asThingsAreNow();
        outside();
        nothingChanges();
        Check.end();
    }

    private static void isJudged(String what, LowHeads x, int wrong, int moves) {
        Check.due(what + ": wrong", x.judge(0), wrong);
        Check.due(what + ": moves", x.judge(1), moves);
    }

    private static void anEmptyBook() {
        isJudged("24 no house", new LowHeads(), NO, 0);
        isJudged("24 empty", Houses.big(), NO, 0);
    }

    private static void somewhereAlready() {
        LowHeads x = Houses.big();
        x.write(0, 0, 0);
        isJudged("24 one alone", x, NO, 0);
        x.write(0, 0, 1);
        isJudged("24 is in that room already", x, 1, 0);
        LowHeads y = Houses.big();
        y.write(5, 0, 0);
        y.write(5, 2, 1);
        isJudged("24 is in another room already", y, 1, 0);
    }

    private static void notFree() {
        LowHeads x = Houses.big();
        x.write(0, 0, 0);
        x.write(1, 0, 0);
        isJudged("24 not free", x, 1, 0);
        LowHeads y = Houses.big();
        y.write(0, 0, 0);
        y.write(1, 1, 0);
        y.write(2, 2, 0);
        isJudged("24 the same place of other rooms", y, NO, 0);
    }

    /** Person 1 comes and leaves as often as it likes: each time one move. */
    private static LowHeads again(int n) {
        LowHeads x = Check.housed("room 0,40;person 90 20 0 0;person 50 90 0 0;");
        x.write(0, 0, 0);
        for (int i = 1; i < n; i++) {
            x.write(1, 0, 1);
        }
        return x;
    }

    private static void theLastIsWrong() {
        isJudged("24 twenty comings", again(20), NO, 19);
        LowHeads x = again(19);
        isJudged("24 nineteen comings", x, NO, 18);
        x.write(0, 0, 1);
        isJudged("24 the twentieth is wrong", x, 19, 18);
        LowHeads y = again(1);
        y.write(0, 0, 1);
        isJudged("24 the second is wrong", y, 1, 0);
    }

    private static void theFirstOfTwoWrongs() {
        LowHeads x = again(5);
        x.write(1, 0, 0);
        x.write(1, 0, 1);
        x.write(0, 0, 1);
        isJudged("24 the first of two", x, 5, 4);
    }

    private static void movesTillThen() {
        LowHeads x = Check.housed("room 40,30,0;person 30 40 0 0;person 60 40 0 0;person 20 40 40 0;");
        x.write(0, 0, 0);
        isJudged("24 one alone", x, NO, 0);
        x.write(1, 0, 1);
        isJudged("24 one goes down", x, NO, 1);
        Check.due("24 nobody is there", x.told(6), 0);
        x.write(2, 0, 0);
        isJudged("24 to the place just left", x, NO, 1);
        x.write(0, 0, 0);
        isJudged("24 is there still", x, 3, 1);
    }

    /** Each room has its own floors: two go down in one, one leaves another, nobody moves in the third. */
    private static void inEveryRoom() {
        for (int r = 0; r < 3; r++) {
            for (String floors : Houses.OTHER_FLOORS) {
                LowHeads x = Check.housed(Houses.withRoom(r, "0,0,20,30", floors)
                    + "person 30 50 20 0;person 50 50 10 0;person 90 50 0 0;person 20 50 0 0;");
                x.write(3, (r + 1) % 3, 0);
                x.write(1, r, 2);
                x.write(0, r, 3);
                isJudged("24 in room " + r, x, NO, 0);
                x.write(2, r, 0);
                isJudged("24 in room " + r, x, NO, 2);
                x.write(3, r, 0);
                isJudged("24 in room " + r, x, 4, 2);
            }
        }
    }

    private static void fromEmptyRoomsOn() {
        LowHeads x = Houses.big();
        x.put(0, 0, 0);
        x.put(4, 0, 1);
        x.write(1, 0, 0);
        isJudged("24 the place is taken now", x, NO, 0);
        x.write(0, 0, 1);
        isJudged("24 both are somewhere now", x, NO, 0);
    }

    private static void asThingsAreNow() {
        LowHeads x = Check.housed("room 0,0,0;person 90 60 0 0;person 50 40 0 0;person 19 40 0 5;");
        x.write(0, 0, 0);
        x.write(1, 0, 1);
        x.write(2, 0, 2);
        isJudged("24 law 0", x, NO, 0);
        x.law(1);
        isJudged("24 law 1", x, NO, 0);
        x.keep(0);
        x.year(1);
        isJudged("24 law 1, grown", x, NO, 1);
        x.law(0);
        isJudged("24 law 0, grown", x, NO, 0);
        x.goBack(0);
        isJudged("24 back", x, NO, 0);
    }

    private static void outside() {
        Check.allRefused("24 what", Check.outOf(0, 1), Houses::livedIn, n -> x -> x.judge(n), LowHeads.OUTSIDE);
        Check.allRefused("24 what, new", Check.outOf(0, 1), LowHeads::new, n -> x -> x.judge(n), LowHeads.OUTSIDE);
    }

    private static void nothingChanges() {
        Check.changesNothing("24 wrong", Houses::livedIn, x -> x.judge(0));
        Check.changesNothing("24 moves", Houses::livedIn, x -> x.judge(1));
        LowHeads x = Houses.livedIn();
        x.judge(0);
        Check.due("24 who is there", x.room(0, 1, 1), 0);
        Check.due("24 who is bent", x.person(3, 6), 2);
        Check.due("24 the book stays", x.told(5), 2);
    }
}
