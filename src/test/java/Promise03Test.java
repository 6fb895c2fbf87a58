import java.util.regex.Matcher;
import java.util.regex.Pattern;

/** Promise 3, house: what the text may be, with every bound; what it changes, and what a fault does not. */
public final class Promise03Test {
    private static final String TWO = "person 50 30 1 1;person 60 30 1 1;";

    private Promise03Test() {
    }

    public static void main(String[] args) {
        emptyTexts();
        numbersOfRooms();
        numbersOfPersons();
        numbersOfFriends();
        figures();
        agesAgain();
        personsToldAhead();
        friendsAgain();
        roomsAtMost();
        placesAtMost();
        personsAtMost();
        friendsAtMost();
        numberedAsTheyCome();
        everyByteBehindAClause();
        everyByteBehindAWord();
        everyByteBehindANumber();
        blanksBetween();
        blanksWithin();
        blanksThatAreNeeded();
        theLongestText();
        aHouseBeginsAnew();
        aSmallerHouse();
        aFaultChangesNothing();
        Check.end();
    }

    private static void emptyTexts() {
        for (int length : new int[] {0, 1, 8, 499, 500}) {
            LowHeads x = Texts.isHouse("3 blanks", Houses.blanks(length), 0);
            Check.due("3 no rooms", x.told(0), 0);
        }
    }

    private interface Asked {
        int of(LowHeads x);
    }

    /** All numbers of the bounds, with one, two and three figures; those beside the bounds are fault 2 at their first. */
    private static void bounds(String ahead, String behind, int least, int most, int persons, Asked asked) {
        for (int n = least; n <= most; n++) {
            for (String figures : new String[] {"%d", "%02d", "%03d"}) {
                String text = ahead + String.format(figures, n) + behind;
                Check.due("3 number of '" + text + "'", asked.of(Texts.isHouse("3 number", text, persons)), n);
            }
        }
        for (int n : new int[] {least - 1, most + 1, 100, 999}) {
            if (n >= 0) {
                Texts.isFault("3 out of bounds", ahead + n + behind, 2, ahead.length());
            }
        }
        for (String many : new String[] {"%04d", "%05d", "%020d", "4294967296%03d", "9999%d"}) {
            Texts.isFault("3 four figures or more", ahead + String.format(many, least) + behind, 2, ahead.length());
            Texts.isFault("3 four figures or more", ahead + String.format(many, most) + behind, 2, ahead.length());
        }
        Texts.isFault("3 below 0", ahead + "-1" + behind, 1, ahead.length());
        Texts.isFault("3 above 0", ahead + "+1" + behind, 1, ahead.length());
    }

    private static void numbersOfRooms() {
        bounds("room ", ";", 0, 40, 0, x -> x.room(0, 0, 0));
        bounds("room 1,", ";", 0, 40, 0, x -> x.room(0, 1, 0));
        bounds("room 1,2,3,4,5,", ";", 0, 40, 0, x -> x.room(0, 5, 0));
        bounds("room 1;room 2,3;room 4,", ",5;", 0, 40, 0, x -> x.room(2, 1, 0));
    }

    private static void numbersOfPersons() {
        bounds("person ", " 30 1 1;", 0, 99, 1, x -> x.person(0, 0));
        bounds("person 1 ", " 1 1;", 20, 90, 1, x -> x.person(0, 1));
        bounds("person 1 30 ", " 1;", 0, 40, 1, x -> x.person(0, 2));
        bounds("person 1 30 1 ", ";", 0, 9, 1, x -> x.person(0, 3));
        bounds(TWO + "person 1 30 1 ", ";", 0, 9, 3, x -> x.person(2, 3));
    }

    private static void numbersOfFriends() {
        bounds(TWO + "friends 0 1 ", ";", 1, 99, 2, x -> x.friends(0, 1));
        bounds(TWO + "friends 1 0 ", ";", 1, 99, 2, x -> x.friends(0, 1));
    }

    private static void figures() {
        Texts.isHouse("3 one figure", "room 0;", 0);
        Texts.isHouse("3 two figures", "room 00;", 0);
        Texts.isHouse("3 three figures", "room 000;", 0);
        Texts.isFault("3 four figures", "room 0000;", 2, 5);
        Texts.isFault("3 four figures", "room 0000", 2, 5);
        Texts.isFault("3 four figures of a person", TWO + "friends 0000 1 5;", 2, 42);
        Texts.isFault("3 four figures of the other", TWO + "friends 0 0001 5;", 2, 44);
        Texts.isHouse("3 three figures of both", TWO + "friends 000 001 005;", 2);
    }

    private static void agesAgain() {
        for (int age = 0; age <= 99; age++) {
            String one = "person " + age + " 30 1 1;";
            Texts.isFault("3 an age again", one + "person " + age + " 40 2 2;", 4, one.length() + 7);
            Texts.isHouse("3 one more", one + "person " + (age == 99 ? 0 : age + 1) + " 30 1 1;", 2);
        }
        for (int again = 1; again <= 5; again++) {
            String five = Houses.SIX_PERSONS.substring(0, 5 * 16);
            Texts.isFault("3 an age of five again", five + "person " + again + " 30 1 1;", 4, 87);
            Texts.isFault("3 an age of five again", five + "person 00" + again + " 30 1 1;", 4, 87);
        }
        Texts.isHouse("3 all else alike", "person 1 30 1 1;person 2 30 1 1;room 3;room 3,3;", 2);
    }

    private static void personsToldAhead() {
        String text = "";
        for (int persons = 0; persons <= 6; persons++) {
            for (int p = 0; p <= 7; p++) {
                String first = text + "friends " + p + " 0 5;";
                String second = text + "friends 0 " + p + " 5;";
                if (p >= persons) {
                    Texts.isFault("3 not told yet", first, 2, text.length() + 8);
                    Texts.isFault("3 not told yet", second, 2, text.length() + (persons == 0 ? 8 : 10));
                } else if (p > 0) {
                    Texts.isHouse("3 told ahead", first, persons);
                    Texts.isHouse("3 told ahead", second, persons);
                }
            }
            text += persons == 6 ? "" : "person " + persons + " 30 1 1;";
        }
        Texts.isFault("3 told behind", "person 1 30 1 1;friends 0 1 5;person 2 30 1 1;", 2, 26);
        Texts.isHouse("3 told ahead", "person 1 30 1 1;person 2 30 1 1;friends 0 1 5;", 2);
    }

    private static void friendsAgain() {
        for (int p = 0; p < 6; p++) {
            Texts.isFault("3 like", Houses.SIX_PERSONS + "friends " + p + " " + p + " 5;", 4, 96 + 10);
            Texts.isFault("3 like, three figures", Houses.SIX_PERSONS + "friends " + p + " 00" + p + " 5;", 4, 96 + 10);
        }
        String once = TWO + "friends 0 1 5;";
        Texts.isFault("3 two again", once + "friends 0 1 5;", 4, once.length() + 10);
        Texts.isFault("3 two again, turned", once + "friends 1 0 5;", 4, once.length() + 10);
        Texts.isFault("3 two again, turned", TWO + "friends 1 0 5;friends 0 1 5;", 4, once.length() + 10);
        Texts.isFault("3 two again, turned twice", TWO + "friends 1 0 5;friends 1 0 5;", 4, once.length() + 10);
        Texts.isHouse("3 others", Houses.SIX_PERSONS + "friends 0 1 5;friends 0 2 5;friends 2 1 5;", 6);
    }

    private static void roomsAtMost() {
        Check.due("3 two rooms", Texts.isHouse("3 two rooms", "room 1;room 2;", 0).told(0), 2);
        Check.due("3 three rooms", Texts.isHouse("3 three rooms", "room 1;room 2;room 3;", 0).told(0), 3);
        Texts.isFault("3 a fourth room", "room 1;room 2;room 3;room 4;", 3, 21);
        Texts.isFault("3 a fourth room", "room 1;room 2;" + TWO + "room 3;  room 4;", 3, 21 + TWO.length() + 2);
        Texts.isFault("3 a fourth room alone", "room 1;room 2;room 3;room", 3, 21);
        Texts.isFault("3 a fourth room with more", "room 1;room 2;room 3;room 99,x", 3, 21);
    }

    private static void placesAtMost() {
        String places = "room 10";
        for (int n = 1; n <= 6; n++) {
            LowHeads x = Texts.isHouse("3 places", places + ";", 0);
            Check.due("3 so many places", x.room(0, LowHeads.NONE, 0), n);
            places += ",1" + n;
        }
        Texts.isFault("3 a seventh place", places + ";", 4, 23);
        Texts.isFault("3 a seventh place", "room 1,2,3,4,5,6 ,  7;", 4, 20);
        Texts.isFault("3 a seventh place, eight", "room 1,2,3,4,5,6,7,8;", 4, 17);
        Texts.isFault("3 a seventh place of the third", "room 1;room 2;room 1,2,3,4,5,6,7;", 4, 31);
        Texts.isFault("3 no place", "room ;", 1, 5);
        Texts.isFault("3 no seventh place", "room 1,2,3,4,5,6,;", 1, 17);
    }

    private static void personsAtMost() {
        Texts.isHouse("3 five persons", Houses.SIX_PERSONS.substring(0, 80), 5);
        Texts.isHouse("3 six persons", Houses.SIX_PERSONS, 6);
        Texts.isFault("3 a seventh person", Houses.SIX_PERSONS + "person 7 30 1 1;", 3, 96);
        Texts.isFault("3 a seventh person alone", Houses.SIX_PERSONS + "person", 3, 96);
        Texts.isFault("3 a seventh person with an age again", Houses.SIX_PERSONS + " person 1 30 1 1;", 3, 97);
    }

    private static void friendsAtMost() {
        String all = Houses.SIX_PERSONS + Houses.allFriends(5);
        String fourteen = all.substring(0, all.length() - 14);
        Check.due("3 14 friends", Texts.isHouse("3 14 friends", fourteen, 6).told(2), 14);
        Check.due("3 15 friends", Texts.isHouse("3 15 friends", all, 6).told(2), 15);
        Texts.isFault("3 a 16th", all + "friends 0 1 5;", 3, all.length());
        Texts.isFault("3 a 16th alone", all + " friends", 3, all.length() + 1);
        Texts.isFault("3 a 15th again", fourteen + "friends 0 1 5;", 4, fourteen.length() + 10);
    }

    private static void numberedAsTheyCome() {
        LowHeads x = Texts.isHouse("3 mixed", "person 5 30 1 1;room 7,8;person 4 31 1 1;friends 1 0 6;room 9;"
            + "person 6 32 1 1;friends 2 0 8;room 10;", 3);
        int[] floors = {7, 9, 10};
        for (int k = 0; k < 3; k++) {
            Check.due("3 room " + k, x.room(k, 0, 0), floors[k]);
            Check.due("3 person " + k, x.person(k, 1), 30 + k);
        }
        Check.due("3 place 1", x.room(0, 1, 0), 8);
        Check.due("3 friends 0 1", x.friends(0, 1), 6);
        Check.due("3 friends 0 2", x.friends(0, 2), 8);
    }

    private static boolean isLetter(int b) {
        return b >= 'a' && b <= 'z';
    }

    private static boolean isFigure(int b) {
        return b >= '0' && b <= '9';
    }

    private static void everyByteBehindAClause() {
        for (int b = 0; b < 256; b++) {
            for (String ahead : new String[] {"", "room 1;", "person 1 30 1 1;"}) {
                if (b == 32) {
                    Texts.isHouse("3 a blank", ahead + (char) b, ahead.startsWith("p") ? 1 : 0);
                } else {
                    Texts.isFault("3 byte " + b, ahead + (char) b, 1, ahead.length());
                }
            }
        }
    }

    private static void everyByteBehindAWord() {
        for (int b = 0; b < 256; b++) {
            String text = "room" + (char) b + "7;";
            if (b == 32 || (b >= '0' && b <= '3')) {
                Texts.isHouse("3 byte " + b, text, 0);
            } else if (isFigure(b)) {
                Texts.isFault("3 byte " + b, text, 2, 4);
            } else {
                Texts.isFault("3 byte " + b, text, 1, isLetter(b) ? 0 : 4);
            }
        }
    }

    private static void everyByteBehindANumber() {
        for (int b = 0; b < 256; b++) {
            String text = "room 1" + (char) b + "2;";
            if (b == ',') {
                Texts.isHouse("3 a comma", text, 0);
            } else if (isFigure(b)) {
                Texts.isFault("3 byte " + b, text, 2, 5);
            } else {
                Texts.isFault("3 byte " + b, text, 1, b == ' ' || b == ';' ? 7 : 6);
            }
            String closed = "room 1" + (char) b + ";";
            if (b == 32 || isFigure(b)) {
                Texts.isHouse("3 byte " + b, closed, 0);
            } else {
                Texts.isFault("3 byte " + b, closed, 1, b == ',' || b == ';' ? 7 : 6);
            }
        }
    }

    private static void blanksBetween() {
        String text = "room0,10;person10 30 10 5;person9 30 10 5;friends0 1 10;";
        Matcher token = Pattern.compile("[a-z]+|[0-9]+|[^ ]").matcher(text);
        String due = Check.picture(Texts.isHouse("3 no more blanks than are needed", text, 2));
        while (token.find()) {
            for (int n : new int[] {1, 2, 50}) {
                String ahead = text.substring(0, token.start()) + Houses.blanks(n) + text.substring(token.start());
                Check.same("3 blanks", Check.picture(Texts.isHouse("3 blanks ahead of a token", ahead, 2)), due);
                String behind = text.substring(0, token.end()) + Houses.blanks(n) + text.substring(token.end());
                Check.same("3 blanks", Check.picture(Texts.isHouse("3 blanks behind a token", behind, 2)), due);
            }
        }
        for (int b : new int[] {0, 9, 10, 13, 31, 33, 95, 160, 255}) {
            Texts.isFault("3 no blank is " + b, "room 1" + (char) b + ",2;", 1, 6);
            Texts.isFault("3 no blank is " + b, (char) b + "room 1;", 1, 0);
        }
    }

    private static void blanksWithin() {
        for (String word : new String[] {"room", "person", "friends"}) {
            for (int k = 1; k < word.length(); k++) {
                String torn = word.substring(0, k) + " " + word.substring(k);
                Texts.isFault("3 a word in two", TWO + torn + " 1 1 1;", 1, TWO.length());
            }
        }
        Texts.isFault("3 a number in two", "room 1 0;", 1, 7);
        Texts.isFault("3 inches in two", "person 10 3 0 10 5;", 2, 10);
        Texts.isFault("3 knees in two", "person 10 30 1 0 5;", 1, 17);
        Texts.isFault("3 a weight in two", TWO + "friends 0 1 1 0;", 1, TWO.length() + 14);
    }

    private static void blanksThatAreNeeded() {
        Texts.isFault("3 two words", "roomroom 1;", 1, 0);
        Texts.isFault("3 two words", "personroom 1;", 1, 0);
        Texts.isFault("3 two numbers", "person 1030 10 5;", 2, 7);
        Texts.isFault("3 two numbers of three figures", "person 130 10 5;", 2, 7);
        Texts.isHouse("3 a number behind a word", "room7;person7 30 1 1;", 1);
        Texts.isFault("3 a word behind a number", "room 7room 8;", 1, 6);
    }

    private static void theLongestText() {
        String text = "room 0,8,16,24,32,40;room 7;room 3,3;" + Houses.SIX_PERSONS + Houses.allFriends(99);
        text += Houses.blanks(500 - text.length());
        LowHeads x = Texts.isHouse("3 500 bytes", text, 6);
        Check.due("3 rooms", x.told(0), 3);
        Check.due("3 friends", x.told(2), 15);
        Texts.isFault("3 the 500th byte", text.substring(0, 499) + ";", 1, 499);
    }

    /** LAW and THE SEED stay, nothing else does. */
    private static void aHouseBeginsAnew() {
        Check.alike("3 a house behind another", () -> {
            LowHeads x = Check.fed(Houses.settled(), Houses.BIG);
            x.keep(1);
            x.feast(63, LowHeads.NONE);
            Check.due("3 six persons", x.house(), 6);
            return x;
        }, () -> {
            LowHeads x = Houses.big();
            x.law(1);
            x.seed(4711);
            return x;
        });
        LowHeads x = Check.fed(Houses.settled(), Houses.BIG);
        x.keep(1);
        x.house();
        Check.due("3 nobody is anywhere", x.told(6), 0);
        Check.due("3 no bend", x.person(3, 6), 0);
        Check.due("3 no book", x.told(5), 0);
        Check.due("3 image 0 is gone", x.goBack(0), LowHeads.NOT);
        Check.due("3 image 1 is gone", x.goBack(1), LowHeads.NOT);
        Check.due("3 law stays", x.told(4), 1);
        Check.due("3 seed stays", x.seed(0), 4711);
        Check.due("3 ages as told", x.person(4, 0), 99);
        Check.due("3 inches as told", x.person(2, 1), 50);
    }

    private static void aSmallerHouse() {
        LowHeads x = Check.fed(Houses.settled(), "room 4;person 8 30 2 1;");
        Check.due("3 one person", x.house(), 1);
        Check.due("3 no second room", x.put(0, 1, 0), LowHeads.UNKNOWN);
        Check.due("3 no second place", x.put(0, 0, 1), LowHeads.UNKNOWN);
        Check.due("3 no second person", x.put(1, 0, 0), LowHeads.UNKNOWN);
        Check.due("3 the first", x.put(0, 0, 0), 1);
        Check.due("3 its head", x.person(0, 7), 34);
        Check.due("3 an empty text", x.house(), 0);
        Check.due("3 nobody", x.person(0, 0), LowHeads.UNKNOWN);
        Check.due("3 is anywhere", x.told(6), 0);
        Check.due("3 no room", x.room(0, LowHeads.NONE, 0), LowHeads.UNKNOWN);
    }

    private static void aFaultChangesNothing() {
        String[] texts = {"room 1;person 1 30 1 x;", "room 1;person 1 30 1 10;", "room 1;room 2;room 3;room 4;",
            "person 1 30 1 1;person 1 30 1 1;", "person 1 30 1 1;person 2 30 1 1;friends 0 1 5;friends 1 0 5;",
            "room 1,2,3,4,5,6,7;", "room 2;room"};
        int[] numbers = {1, 2, 3, 4, 4, 4, 1};
        for (int k = 0; k < texts.length; k++) {
            int i = k;
            Check.alikeButForFault("3 '" + texts[k] + "' changes nothing", () -> {
                LowHeads x = Check.fed(Houses.settled(), texts[i]);
                Check.due("3 fault of '" + texts[i] + "'", x.house(), -10 - numbers[i]);
                return x;
            }, Houses::settled);
        }
    }
}
