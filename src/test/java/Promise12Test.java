/** Promise 12, bend: 0 to KNEES, what it was; UNKNOWN, OUTSIDE, NOT, in this order. */
public final class Promise12Test {
    private static final int[] KNEES = {5, 8, 20, 4, 40, 0};

    private Promise12Test() {
    }

    public static void main(String[] args) {
        everyBend();
        whatItWas();
        outside();
        unknown();
        nowhere();
        nobodyElseBends();
        nothingElseChanges();
        Check.end();
    }

    private static void everyBend() {
        for (int p = 0; p < 6; p++) {
            LowHeads x = Houses.big();
            x.put(p, 0, 0);
            for (int v = 0; v <= KNEES[p]; v++) {
                Check.due("12 was", x.bend(p, v), Math.max(0, v - 1));
                Check.due("12 is", x.person(p, 6), v);
                Check.due("12 head", x.person(p, 7), x.person(p, 1) - v);
            }
            Check.due("12 one more", x.bend(p, KNEES[p] + 1), LowHeads.OUTSIDE);
            Check.due("12 one less than 0", x.bend(p, -1), LowHeads.OUTSIDE);
            Check.due("12 as it was", x.person(p, 6), KNEES[p]);
        }
    }

    private static void whatItWas() {
        LowHeads x = Houses.big();
        x.put(4, 0, 0);
        Check.due("12 was 0", x.bend(4, 40), 0);
        Check.due("12 was 40", x.bend(4, 40), 40);
        Check.due("12 was 40 still", x.bend(4, 0), 40);
        Check.due("12 was 0 again", x.bend(4, 1), 0);
        x.bow(0);
        Check.due("12 was 0 by bowing", x.bend(4, 3), 0);
    }

    private static LowHeads all() {
        LowHeads x = Houses.livedIn();
        x.put(1, 0, 0);
        x.put(4, 0, 2);
        return x;
    }

    private static void outside() {
        for (int p = 0; p < 6; p++) {
            int who = p;
            Check.allRefused("12 bend of " + p, Check.outOf(0, KNEES[p]), Promise12Test::all, v -> x -> x.bend(who, v), LowHeads.OUTSIDE);
        }
    }

    private static void unknown() {
        for (int p : Check.outOf(0, 5)) {
            Check.refused("12 person " + p, Houses::livedIn, x -> x.bend(p, 0), LowHeads.UNKNOWN);
            Check.refused("12 person " + p + " ahead of bounds", Houses::livedIn, x -> x.bend(p, -1), LowHeads.UNKNOWN);
            Check.refused("12 person " + p + " ahead of bounds", Houses::livedIn, x -> x.bend(p, 41), LowHeads.UNKNOWN);
        }
    }

    private static void nowhere() {
        for (int v : new int[] {0, 1, 8}) {
            Check.refused("12 nowhere, " + v, Houses::livedIn, x -> x.bend(1, v), LowHeads.NOT);
        }
        for (int v : new int[] {-1, 9, 40}) {
            Check.refused("12 nowhere and outside, " + v, Houses::livedIn, x -> x.bend(1, v), LowHeads.OUTSIDE);
        }
        Check.refused("12 nowhere with the greatest knees", Houses::livedIn, x -> x.bend(4, 40), LowHeads.NOT);
        Check.refused("12 nowhere and one too many", Houses::livedIn, x -> x.bend(4, 41), LowHeads.OUTSIDE);
    }

    private static void nobodyElseBends() {
        LowHeads x = Houses.livedIn();
        x.bend(0, 5);
        Check.due("12 beside", x.person(3, 6), 2);
        Check.due("12 in another room", x.person(2, 6), 20);
    }

    private static void nothingElseChanges() {
        Check.changesNothing("12 to and fro", Houses::livedIn, x -> x.bend(3, 4) + x.bend(3, 2));
    }
}
