/** Promise 16, come: who moves where till nobody would be too high by bowing; MOVES; UNKNOWN, NOT. */
public final class Promise16Test {
    private Promise16Test() {
    }

    public static void main(String[] args) {
        alone();
        kneesJustEnough();
        aFloorBelowItsOwn();
        movesAndLeaves();
        theLeastFloorThatIsFree();
        theLeastOfLikeFloors();
        theEldestOfThoseFirst();
        aPlaceJustLeft();
        inEveryRoom();
        whoComesMayGo();
        whoIsThereMayGo();
        everybodyLeaves();
        theLastPlace();
        allBowAtLast();
        thatRoomAlone();
        byLaw();
        whoLeftCanCome();
        Comings.unknown("16 come", LowHeads::come);
        Comings.not("16 come", LowHeads::come);
        Check.end();
    }

    private static void isAt(String what, LowHeads x, int p, int r, int place, int bend) {
        Check.due(what + ": room of " + p, x.person(p, 4), r);
        Check.due(what + ": place of " + p, x.person(p, 5), place);
        Check.due(what + ": bend of " + p, x.person(p, 6), bend);
    }

    private static void isNowhere(String what, LowHeads x, int p) {
        isAt(what, x, p, LowHeads.NONE, LowHeads.NONE, 0);
    }

    private static void alone() {
        for (int law = 0; law <= 1; law++) {
            for (int p = 0; p < 6; p++) {
                LowHeads x = Houses.big();
                x.law(law);
                Check.due("16 alone on the highest floor", x.come(p, 0, 4), 0);
                isAt("16 alone", x, p, 0, 4, 0);
            }
        }
    }

    /** An elder of 50 inches at floor 0; one of 50 inches comes to floor 10. */
    private static LowHeads elderAt0(String floors, int knees) {
        LowHeads x = Check.housed("room " + floors + ";person 90 50 0 0;person 50 50 " + knees + " 0;");
        x.put(0, 0, 0);
        return x;
    }

    private static void kneesJustEnough() {
        LowHeads x = elderAt0("0,10,0", 11);
        Check.due("16 knees are more than enough", x.come(1, 0, 1), 0);
        isAt("16 knees are more than enough", x, 1, 0, 1, 10);
        x = elderAt0("0,10,0", 10);
        Check.due("16 knees are just enough", x.come(1, 0, 1), 0);
        isAt("16 knees are just enough", x, 1, 0, 1, 10);
        x = elderAt0("0,10,0", 9);
        Check.due("16 knees are too few", x.come(1, 0, 1), 1);
        isAt("16 knees are too few", x, 1, 0, 2, 0);
    }

    private static void aFloorBelowItsOwn() {
        LowHeads x = elderAt0("0,10,9", 9);
        Check.due("16 one inch below", x.come(1, 0, 1), 1);
        isAt("16 one inch below", x, 1, 0, 2, 9);
        x = elderAt0("0,10,10", 9);
        Check.due("16 as high", x.come(1, 0, 1), 1);
        isNowhere("16 as high", x, 1);
        x = elderAt0("0,10,11", 9);
        Check.due("16 one inch above", x.come(1, 0, 1), 1);
        isNowhere("16 one inch above", x, 1);
        x = elderAt0("0,10", 9);
        Check.due("16 nothing is free", x.come(1, 0, 1), 1);
        isNowhere("16 nothing is free", x, 1);
        Check.due("16 the place is free again", x.room(0, 1, 1), LowHeads.NONE);
    }

    private static void movesAndLeaves() {
        LowHeads x = elderAt0("0,10,9", 8);
        Check.due("16 down, then out", x.come(1, 0, 1), 2);
        isNowhere("16 down, then out", x, 1);
        x = elderAt0("0,10,9,8", 8);
        Check.due("16 straight to the lowest", x.come(1, 0, 1), 1);
        isAt("16 straight to the lowest", x, 1, 0, 3, 8);
    }

    private static void theLeastFloorThatIsFree() {
        LowHeads x = Check.housed("room 40,30,0,20,5,10;person 90 50 0 0;person 80 20 0 0;person 50 50 5 0;");
        x.put(0, 0, 2);
        Check.due("16 any floor will do", x.come(2, 0, 0), 1);
        isAt("16 the lowest that is free", x, 2, 0, 4, 5);
        LowHeads first = Check.housed("room 5,30,10;person 90 50 0 0;person 50 50 0 0;");
        first.put(0, 0, 2);
        Check.due("16 the first place", first.come(1, 0, 1), 1);
        isAt("16 the first place", first, 1, 0, 0, 0);
        LowHeads y = Check.housed("room 40,30,0,20,5,10;person 90 50 0 0;person 80 20 0 0;person 50 50 10 0;");
        y.put(0, 0, 2);
        y.put(1, 0, 4);
        Check.due("16 the lowest but one", y.come(2, 0, 0), 1);
        isAt("16 the lowest but one", y, 2, 0, 5, 10);
    }

    private static void theLeastOfLikeFloors() {
        LowHeads x = elderAt0("0,30,10,10,10", 10);
        x.come(1, 0, 1);
        isAt("16 the least of like ones", x, 1, 0, 2, 10);
        x = elderAt0("0,10,10,30,10", 10);
        x.come(1, 0, 3);
        isAt("16 the least of like ones", x, 1, 0, 1, 10);
        x = Check.housed("room 5,30,5,10;person 90 50 0 0;person 50 50 0 0;");
        x.put(0, 0, 3);
        x.come(1, 0, 1);
        isAt("16 the least of all", x, 1, 0, 0, 0);
    }

    /** The eldest of those too high is neither the least person nor the last. */
    private static void theEldestOfThoseFirst() {
        LowHeads x = Check.housed("room 0,30,30,30,0,10;person 30 50 30 0;person 50 50 0 0;person 40 50 10 0;"
            + "person 90 50 0 0;");
        x.put(0, 0, 1);
        x.put(1, 0, 2);
        x.put(2, 0, 3);
        Check.due("16 two go down", x.come(3, 0, 0), 2);
        isAt("16 the elder is lowest", x, 1, 0, 4, 0);
        isAt("16 the next", x, 2, 0, 5, 10);
        isAt("16 who can bend stays", x, 0, 0, 1, 30);
        isAt("16 who came", x, 3, 0, 0, 0);
    }

    private static void aPlaceJustLeft() {
        LowHeads x = Check.housed("room 0,0,20,30;person 30 50 20 0;person 50 50 10 0;person 90 50 0 0;");
        x.put(0, 0, 3);
        x.put(1, 0, 2);
        Check.due("16 one after the other", x.come(2, 0, 0), 2);
        isAt("16 the elder of both", x, 1, 0, 1, 0);
        isAt("16 to the place just left", x, 0, 0, 2, 20);
    }

    private static void inEveryRoom() {
        String persons = "person 30 50 20 0;person 50 50 10 0;person 90 50 0 0;person 20 50 0 0;";
        for (int r = 0; r < 3; r++) {
            for (String floors : Houses.OTHER_FLOORS) {
                LowHeads x = Check.housed(Houses.withRoom(r, "0,0,20,30", floors) + persons);
                x.put(0, r, 3);
                x.put(1, r, 2);
                x.put(3, (r + 1) % 3, 0);
                Check.due("16 in room " + r, x.come(2, r, 0), 2);
                isAt("16 in room " + r, x, 1, r, 1, 0);
                isAt("16 in room " + r, x, 0, r, 2, 20);
                isAt("16 elsewhere", x, 3, (r + 1) % 3, 0, 0);
                LowHeads y = Check.housed(Houses.withRoom(r, "0,10,10", floors) + persons);
                y.put(2, r, 0);
                Check.due("16 out of room " + r, y.come(3, r, 1), 1);
                isNowhere("16 out of room " + r, y, 3);
                LowHeads z = Check.housed(Houses.withRoom(r, "30,20,10,0,15", floors) + persons);
                z.put(2, r, 3);
                Check.due("16 down in room " + r, z.come(1, r, 0), 1);
                isAt("16 down in room " + r, z, 1, r, 2, 10);
            }
        }
    }

    private static void whoComesMayGo() {
        LowHeads x = Check.housed("room 0,0,40;person 90 50 0 0;person 50 50 0 0;person 30 50 0 0;");
        x.put(0, 0, 0);
        x.put(2, 0, 1);
        Check.due("16 who comes leaves", x.come(1, 0, 2), 1);
        isNowhere("16 who comes leaves", x, 1);
        isAt("16 the younger stays", x, 2, 0, 1, 0);
    }

    private static void whoIsThereMayGo() {
        LowHeads x = Check.housed("room 0,40;person 50 50 0 0;person 90 50 0 0;");
        x.put(0, 0, 1);
        Check.due("16 somebody older comes", x.come(1, 0, 0), 1);
        isNowhere("16 the younger", x, 0);
        isAt("16 the elder", x, 1, 0, 0, 0);
        Check.due("16 who is there", x.told(6), 2);
    }

    private static void everybodyLeaves() {
        for (int law = 0; law <= 1; law++) {
            LowHeads x = Check.housed("room 40,40,40,40,40,0;person 10 50 9 0;person 11 50 9 0;person 12 50 9 0;person 13 50 9 0;"
                + "person 14 50 9 0;person 99 20 0 0;");
            x.law(law);
            for (int p = 0; p < 5; p++) {
                x.put(p, 0, p);
            }
            Check.due("16 everybody leaves", x.come(5, 0, 5), 5);
            Check.due("16 but for the eldest", x.told(6), 32);
        }
        LowHeads y = Check.housed("room 40,39,38,37,0;person 10 50 9 0;person 11 50 9 0;person 99 20 0 0;");
        y.put(0, 0, 0);
        y.put(1, 0, 1);
        Check.due("16 both go down, then out", y.come(2, 0, 4), 4);
        Check.due("16 the eldest alone", y.told(6), 4);
    }

    private static void theLastPlace() {
        LowHeads x = Check.housed("room 0,0,0,0,0,0;person 10 50 0 0;person 11 50 0 0;person 12 50 0 0;person 13 50 0 0;"
            + "person 14 50 0 0;person 9 50 0 0;");
        for (int p = 0; p < 6; p++) {
            Check.due("16 one by one", x.come(p, 0, 5 - p), 0);
            isAt("16 one by one", x, p, 0, 5 - p, 0);
        }
        Check.due("16 all", x.told(6), 63);
    }

    private static void allBowAtLast() {
        LowHeads x = Check.housed("room 0,0,0,0;person 90 50 9 0;person 50 55 9 0;person 40 53 9 0;person 30 40 9 0;");
        x.put(0, 0, 0);
        x.put(1, 0, 1);
        x.put(2, 0, 2);
        x.bend(0, 9);
        x.bend(2, 9);
        Check.due("16 nobody moves", x.come(3, 0, 3), 0);
        isAt("16 the eldest stands up", x, 0, 0, 0, 0);
        isAt("16 one bends", x, 1, 0, 1, 5);
        isAt("16 one bends less", x, 2, 0, 2, 3);
        isAt("16 who came", x, 3, 0, 3, 0);
    }

    private static void thatRoomAlone() {
        LowHeads x = Check.housed("room 0,40;room 0,0;room 0;person 90 50 0 0;person 50 50 0 0;person 99 20 9 0;person 10 50 9 0;");
        x.put(2, 1, 0);
        x.put(3, 1, 1);
        x.bend(2, 9);
        x.put(0, 0, 0);
        Check.due("16 a free place of another room", x.come(1, 0, 1), 1);
        isNowhere("16 is not gone to", x, 1);
        isAt("16 elsewhere nobody bows", x, 2, 1, 0, 9);
        isAt("16 elsewhere nobody moves", x, 3, 1, 1, 0);
    }

    private static void byLaw() {
        for (int law = 0; law <= 1; law++) {
            LowHeads x = Check.housed("room 0,0,11,5;person 90 50 0 0;person 50 40 0 0;person 30 35 5 0;");
            x.law(law);
            x.put(0, 0, 0);
            x.put(1, 0, 1);
            Check.due("16 law " + law, x.come(2, 0, 2), law);
            isAt("16 law " + law, x, 2, 0, law == 0 ? 2 : 3, 0);
        }
    }

    private static void whoLeftCanCome() {
        LowHeads x = elderAt0("0,10", 9);
        Check.due("16 leaves", x.come(1, 0, 1), 1);
        Check.due("16 leaves again", x.come(1, 0, 1), 1);
        x.leave(0);
        Check.due("16 stays", x.come(1, 0, 1), 0);
        isAt("16 stays", x, 1, 0, 1, 0);
        Check.due("16 is somewhere now", x.come(1, 0, 0), LowHeads.NOT);
    }
}
