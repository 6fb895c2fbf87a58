import java.util.LinkedHashMap;
import java.util.Map;

/** Promise 4, fault: the byte of the latest house's fault: the first byte that has one, of these the least; NONE. */
public final class Promise04Test {
    private static final String TWO = "person 50 30 1 1;person 60 30 1 1;";

    private Promise04Test() {
    }

    public static void main(String[] args) {
        ofTheLatestHouse();
        itStays();
        firstAndLastByte();
        wordsThatCannot();
        oneLetterIsAnother();
        signsThatCannot();
        theEnd();
        everyBeginning();
        bytesOfAnOlderText();
        firstOfTwoFaults();
        leastAtOneByte();
        Check.end();
    }

    private static void ofTheLatestHouse() {
        LowHeads x = new LowHeads();
        Check.due("4 no house yet", x.fault(), LowHeads.NONE);
        Check.fed(x, "room x;");
        Check.due("4 no house of it yet", x.fault(), LowHeads.NONE);
        x.house();
        Check.due("4 of the first", x.fault(), 5);
        Check.due("4 asked again", x.fault(), 5);
        Check.fed(x, " ;").house();
        Check.due("4 of the next", x.fault(), 1);
        Check.fed(x, "room 1;").house();
        Check.due("4 of a good one", x.fault(), LowHeads.NONE);
        Check.fed(x, ";").house();
        Check.due("4 of one more", x.fault(), 0);
        x.house();
        Check.due("4 of an empty text", x.fault(), LowHeads.NONE);
    }

    private static void itStays() {
        LowHeads x = Houses.livedIn();
        x.keep(1);
        x.goBack(0);
        x.year(1);
        x.drift(9);
        x.empty();
        x.tear();
        Check.due("4 over other calls", x.fault(), 7);
        Check.changesNothing("4 fault", Houses::livedIn, y -> y.fault());
    }

    private static void firstAndLastByte() {
        Texts.isFault("4 the first byte", ";", 1, 0);
        Texts.isFault("4 the second byte", " ;", 1, 1);
        Texts.isFault("4 byte 498", Houses.blanks(498) + "?", 1, 498);
        Texts.isFault("4 byte 499", Houses.blanks(499) + "?", 1, 499);
        Texts.isFault("4 the end of 499", Houses.blanks(493) + "room 1", 1, 499);
        Texts.isFault("4 the end of 500", Houses.blanks(494) + "room 1", 1, 500);
    }

    private static void wordsThatCannot() {
        for (String word : new String[] {"r", "roo", "rooms", "rooma", "roomz", "a", "z", "persons", "perso", "friend", "friendss",
            "roomperson", "zroom", "moor"}) {
            Texts.isFault("4 at its first letter", word + " 1;", 1, 0);
            Texts.isFault("4 at its first letter", "room 1;  " + word, 1, 9);
        }
        Texts.isFault("4 a word for a number", "room 1,room 2;", 1, 7);
        Texts.isFault("4 a word for a number", "person 1 person 1 1;", 1, 9);
        Texts.isFault("4 a word for the end", "room 1 room 2;", 1, 7);
        Texts.isFault("4 a word for the end", "person 1 30 1 1 friends 0 1 1;", 1, 16);
        Texts.isFault("4 great letters", "ROOM 1;", 1, 0);
        Texts.isFault("4 a great letter behind", "roomA 1;", 1, 4);
        Texts.isFault("4 a sign below a", "room` 1;", 1, 4);
        Texts.isFault("4 a sign above z", "room{ 1;", 1, 4);
    }

    private static void oneLetterIsAnother() {
        String[] clauses = {"room 1;", "person 1 30 1 1;", "friends 0 1 5;"};
        for (String clause : clauses) {
            for (int k = 0; k < clause.indexOf(' '); k++) {
                for (char letter : new char[] {'a', 'z', (char) (clause.charAt(k) - 1), (char) (clause.charAt(k) + 1)}) {
                    String other = clause.substring(0, k) + letter + clause.substring(k + 1);
                    Texts.isFault("4 another letter", TWO + other, 1, TWO.length());
                }
            }
        }
    }

    private static void signsThatCannot() {
        Texts.isFault("4 a number for a word", "1;", 1, 0);
        Texts.isFault("4 a comma for a word", ",", 1, 0);
        Texts.isFault("4 a second end", "room 1;;", 1, 7);
        Texts.isFault("4 a comma for a number", "room ,1;", 1, 5);
        Texts.isFault("4 two commas", "room 1,,2;", 1, 7);
        Texts.isFault("4 a comma for an end", "person 1 30 1 1,", 1, 15);
        Texts.isFault("4 a comma between", "person 1,30 1 1;", 1, 8);
        Texts.isFault("4 an end too early", "person 1 30 1;", 1, 13);
        Texts.isFault("4 an end too early", TWO + "friends 0 1;", 1, TWO.length() + 11);
        Texts.isFault("4 a number too many", "person 1 30 1 1 1;", 1, 16);
        Texts.isFault("4 a number too many", TWO + "friends 0 1 1 1;", 1, TWO.length() + 14);
        Texts.isFault("4 a number too many", "room 1 1;", 1, 7);
    }

    private static void theEnd() {
        String[] open = {"room", "room ", "room 1", "room 1 ", "room 1,", "room 1, ", "person", "person 1", "person 1 30",
            "person 1 30 1", "person 1 30 1 1", "person 1 30 1 1   ", TWO + "friends", TWO + "friends 0", TWO + "friends 0 1",
            TWO + "friends 0 1 5"};
        for (String text : open) {
            Texts.isFault("4 the end", text, 1, text.length());
            Texts.isFault("4 the end", "room 1;" + text, 1, text.length() + 7);
        }
    }

    /** Compared with the slow oracle, which reads whole tokens. */
    private static void everyBeginning() {
        for (int length = 0; length <= Houses.BIG.length(); length++) {
            String text = Houses.BIG.substring(0, length);
            LowHeads x = Check.fed(new LowHeads(), text);
            Oracle o = new Oracle();
            for (int k = 0; k < length; k++) {
                o.feed(1, text.charAt(k));
            }
            Check.due("4 house of '" + text + "'", x.house(), o.house());
            Check.due("4 fault of '" + text + "'", x.fault(), o.fault());
        }
    }

    /** Behind the end of a text there is nothing, whatever an older and longer text had there. */
    private static void bytesOfAnOlderText() {
        String[] texts = {"room", "room 1", "room 1,", "room 4", "room 1,2;per", "room 1;", "person 1 30 1 1", "person 1 3", "person", ""};
        int[] due = {-11, -11, -11, -11, -11, 0, -11, -12, -11, 0};
        int[] at = {4, 6, 7, 6, 9, LowHeads.NONE, 15, 9, 6, LowHeads.NONE};
        for (String older : new String[] {"s", " ", "0", "9", ";", ",", "a1;", "1,2;", "son 1 30 1 1;", "00000"}) {
            for (int k = 0; k < texts.length; k++) {
                LowHeads x = new LowHeads();
                Check.fed(x, texts[k] + older + older).house();
                Check.fed(x, texts[k]);
                Check.due("4 '" + texts[k] + "' behind '" + older + "'", x.house(), due[k]);
                Check.due("4 byte of '" + texts[k] + "' behind '" + older + "'", x.fault(), at[k]);
            }
        }
    }

    /** Whatever their numbers are, the fault that comes first counts. */
    private static void firstOfTwoFaults() {
        String base = "room 1;room 2;room 3;" + TWO + "friends 0 1 9;";
        Map<String, int[]> faults = new LinkedHashMap<>();
        faults.put("rooms 1;", new int[] {1, 0});
        faults.put("person 1,30 1 1;", new int[] {1, 8});
        faults.put("person 7 19 1 1;", new int[] {2, 9});
        faults.put("friends 0 2 9;", new int[] {2, 10});
        faults.put("person 7 30 1 0001;", new int[] {2, 14});
        faults.put("room 1;", new int[] {3, 0});
        faults.put("person 50 30 1 1;", new int[] {4, 7});
        faults.put("friends 1 0 9;", new int[] {4, 10});
        faults.put("friends 1 1 9;", new int[] {4, 10});
        for (String first : faults.keySet()) {
            Texts.isFault("4 alone", base + first, faults.get(first)[0], base.length() + faults.get(first)[1]);
            for (String second : faults.keySet()) {
                Texts.isFault("4 the first of two", base + first + second, faults.get(first)[0], base.length() + faults.get(first)[1]);
            }
        }
        Texts.isFault("4 in one clause: 4, then 2", "person 5 30 1 1;person 5 91 1 1;", 4, 23);
        Texts.isFault("4 in one clause: 2, then 1", "person 100 30 x;", 2, 7);
        Texts.isFault("4 in one clause: 4, then 2", TWO + "friends 1 1 100;", 4, TWO.length() + 10);
        Texts.isFault("4 in one clause: 2, then 4", "room 1,41,3,4,5,6,7;", 2, 7);
        Texts.isFault("4 in one clause: 4, then 1", "room 1,2,3,4,5,6,7", 4, 17);
        Texts.isFault("4 in one clause: 2, then the end", "room 41", 2, 5);
    }

    private static void leastAtOneByte() {
        Texts.isFault("4 1 ahead of 2", "room 1 9999;", 1, 7);
        Texts.isFault("4 1 ahead of 2", "person 1 30 1 1 9999;", 1, 16);
        Texts.isFault("4 1 ahead of 3", "room 1;room 2;room 3 room 4;", 1, 21);
        Texts.isFault("4 1 ahead of 3", Houses.SIX_PERSONS + "room 1,person 7 30 1 1;", 1, 103);
        Texts.isFault("4 2 ahead of 4, a seventh place", "room 1,2,3,4,5,6,41;", 2, 17);
        Texts.isFault("4 2 ahead of 4, a seventh place", "room 1,2,3,4,5,6,0001;", 2, 17);
        Texts.isFault("4 4, a seventh place", "room 1,2,3,4,5,6,40;", 4, 17);
        Texts.isFault("4 2 ahead of 4, an age", "person 5 30 1 1;person 0005 30 1 1;", 2, 23);
        Texts.isFault("4 2 ahead of 4, like", TWO + "friends 1 0001 5;", 2, TWO.length() + 10);
        Texts.isFault("4 2 ahead of 4, not told", TWO + "friends 2 2 5;", 2, TWO.length() + 8);
        Texts.isFault("4 2 ahead of 4, two again", TWO + "friends 0 1 5;friends 1 0000 5;", 2, TWO.length() + 24);
    }
}
