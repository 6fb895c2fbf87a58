/** Promise 28, keep: IMAGE i (0, 1) becomes what is so: 1; UNKNOWN. */
public final class Promise28Test {
    private Promise28Test() {
    }

    public static void main(String[] args) {
        both();
        unknown();
        keptAnew();
        twoImages();
        whatIsSoStays();
        laterChangesDoNotReachIt();
        Check.end();
    }

    private static void both() {
        LowHeads x = new LowHeads();
        Check.due("28 image 0", x.keep(0), 1);
        Check.due("28 image 1", x.keep(1), 1);
        Check.due("28 image 0 again", x.keep(0), 1);
        Check.due("28 of a house", Houses.livedIn().keep(1), 1);
    }

    private static void unknown() {
        Check.allRefused("28 image", Check.outOf(0, 1), Houses::livedIn, i -> x -> x.keep(i), LowHeads.UNKNOWN);
        Check.allRefused("28 image, new", Check.outOf(0, 1), LowHeads::new, i -> x -> x.keep(i), LowHeads.UNKNOWN);
    }

    private static void keptAnew() {
        for (int i = 0; i <= 1; i++) {
            LowHeads x = Houses.big();
            x.keep(i);
            x.put(0, 0, 0);
            x.law(1);
            x.keep(i);
            x.empty();
            x.law(0);
            x.goBack(i);
            Check.due("28 where all are, kept anew", x.told(6), 1);
            Check.due("28 law, kept anew", x.told(4), 1);
        }
    }

    private static void twoImages() {
        LowHeads x = Houses.big();
        x.keep(0);
        x.put(0, 0, 0);
        x.keep(1);
        x.put(1, 0, 1);
        x.goBack(0);
        Check.due("28 image 0", x.told(6), 0);
        x.goBack(1);
        Check.due("28 image 1", x.told(6), 1);
    }

    private static void whatIsSoStays() {
        for (int i = 0; i <= 1; i++) {
            int image = i;
            LowHeads x = Houses.livedIn();
            x.keep(i);
            Check.same("28 what is so", Check.picture(x), Check.picture(Houses.livedIn()));
            Check.changesNothing("28 the same image again", () -> {
                LowHeads y = Houses.livedIn();
                y.keep(image);
                return y;
            }, y -> y.keep(image));
        }
    }

    private static void laterChangesDoNotReachIt() {
        LowHeads x = Houses.livedIn();
        x.keep(1);
        String kept = Check.picture(x);
        x.bend(3, 4);
        x.leave(0);
        x.year(7);
        x.law(0);
        x.seed(1);
        x.put(4, 0, 0);
        x.bow(0);
        x.goBack(1);
        Check.same("28 as it was kept", Check.picture(x), kept);
    }
}
