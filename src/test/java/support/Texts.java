/** Texts that are a house, and texts that have a fault. */
final class Texts {
    private Texts() {
    }

    static LowHeads isHouse(String what, String text, int persons) {
        LowHeads x = Check.fed(new LowHeads(), text);
        Check.due(what + ": house of '" + text + "'", x.house(), persons);
        Check.due(what + ": fault of '" + text + "'", x.fault(), LowHeads.NONE);
        Check.due(what + ": text behind '" + text + "'", x.told(3), 0);
        return x;
    }

    static void isFault(String what, String text, int number, int at) {
        LowHeads x = Check.fed(new LowHeads(), text);
        Check.due(what + ": house of '" + text + "'", x.house(), -10 - number);
        Check.due(what + ": fault of '" + text + "'", x.fault(), at);
        Check.due(what + ": text behind '" + text + "'", x.told(3), 0);
        Check.due(what + ": no house of '" + text + "'", x.told(0) + x.told(1) + x.told(2), 0);
    }
}
