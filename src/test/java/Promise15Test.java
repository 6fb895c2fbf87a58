/** Promise 15, year: n YEARS (1 .. 60): AGES, INCHES (90 at most), BENDS stay; ROOMS that have a FAULT then; OUTSIDE. */
public final class Promise15Test {
    private Promise15Test() {
    }

    public static void main(String[] args) {
        outside();
        ages();
        growsTill20();
        ninetyAtMost();
        yearByYear();
        bendsAndPlacesStay();
        nothingElseChanges();
        roomsWithAFault();
        faultsThenNotOnTheWay();
        byLaw();
        Check.end();
    }

    private static void outside() {
        Check.allRefused("15 years", Check.outOf(1, 60), Houses::livedIn, n -> x -> x.year(n), LowHeads.OUTSIDE);
        Check.refused("15 no years", Houses::livedIn, x -> x.year(0), LowHeads.OUTSIDE);
        Check.allRefused("15 years, new", Check.outOf(1, 60), LowHeads::new, n -> x -> x.year(n), LowHeads.OUTSIDE);
    }

    private static void ages() {
        LowHeads x = Houses.big();
        int[] due = {70, 40, 12, 30, 99, 0};
        int passed = 0;
        for (int n : new int[] {1, 2, 59, 60}) {
            Check.due("15 nobody is there", x.year(n), 0);
            passed += n;
            for (int p = 0; p < 6; p++) {
                Check.due("15 age", x.person(p, 0), due[p] + passed);
            }
        }
    }

    /** Behind n years one has grown as often as its age ahead was below 20. */
    private static void growsTill20() {
        for (int age : new int[] {0, 1, 17, 18, 19, 20, 21, 99}) {
            for (int n : new int[] {1, 2, 3, 19, 20, 21, 60}) {
                LowHeads x = Check.housed("person " + age + " 30 0 3;");
                x.year(n);
                int times = Math.max(0, Math.min(n, 20 - age));
                Check.due("15 inches behind " + n + " from " + age, x.person(0, 1), Math.min(90, 30 + 3 * times));
            }
        }
        for (int grows = 0; grows <= 9; grows++) {
            LowHeads x = Check.housed("person 19 30 0 " + grows + ";");
            x.year(1);
            Check.due("15 grows " + grows, x.person(0, 1), 30 + grows);
            x.year(1);
            Check.due("15 no more " + grows, x.person(0, 1), 30 + grows);
            Check.due("15 grows stays", x.person(0, 3), grows);
        }
    }

    private static void ninetyAtMost() {
        for (int inches = 79; inches <= 90; inches++) {
            LowHeads x = Check.housed("person 0 " + inches + " 0 9;");
            x.year(1);
            Check.due("15 behind one year", x.person(0, 1), Math.min(90, inches + 9));
            x.year(1);
            Check.due("15 behind two years", x.person(0, 1), Math.min(90, inches + 18));
            x.year(18);
            Check.due("15 behind twenty years", x.person(0, 1), 90);
        }
        LowHeads one = Check.housed("person 0 89 0 1;person 1 90 0 1;person 2 88 0 1;");
        one.year(1);
        Check.due("15 89 and 1", one.person(0, 1), 90);
        Check.due("15 90 and 1", one.person(1, 1), 90);
        Check.due("15 88 and 1", one.person(2, 1), 89);
    }

    private static void yearByYear() {
        for (int n : new int[] {2, 7, 8, 9, 60}) {
            Check.alike("15 " + n + " at once", () -> {
                LowHeads x = Houses.livedIn();
                x.year(n);
                return x;
            }, () -> {
                LowHeads x = Houses.livedIn();
                for (int k = 0; k < n; k++) {
                    x.year(1);
                }
                return x;
            });
        }
    }

    private static void bendsAndPlacesStay() {
        LowHeads x = Check.housed("room 0,7;person 90 40 40 0;person 10 30 40 2;");
        x.put(0, 0, 0);
        x.put(1, 0, 1);
        x.bend(0, 13);
        x.bend(1, 40);
        x.year(60);
        Check.due("15 bend of the elder", x.person(0, 6), 13);
        Check.due("15 bend of the child", x.person(1, 6), 40);
        Check.due("15 place", x.person(1, 5), 1);
        Check.due("15 head", x.person(1, 7), 7 + 50 - 40);
        Check.due("15 knees", x.person(1, 2), 40);
    }

    private static void nothingElseChanges() {
        Check.changesNothing("15 a year and back", () -> {
            LowHeads x = Houses.livedIn();
            x.keep(1);
            return x;
        }, x -> x.year(60) + x.goBack(1));
        LowHeads x = Houses.livedIn();
        x.year(60);
        Check.due("15 the book", x.told(5), 2);
        Check.due("15 the text", x.told(3), 7);
        Check.due("15 the law", x.told(4), 1);
        Check.due("15 the seed", x.seed(0), 4711);
    }

    private static void roomsWithAFault() {
        for (int rooms = 0; rooms <= 7; rooms++) {
            LowHeads x = Check.housed("room 0,0;room 0,0;room 0,0;person 10 40 9 1;person 90 40 9 0;person 11 40 9 1;person 91 40 9 0;"
                + "person 12 40 9 1;person 92 40 9 0;");
            for (int p = 0; p < 6; p++) {
                x.put(p, p / 2, p % 2);
                x.bend(p, p % 2 == 0 && (rooms >> p / 2 & 1) == 0 ? 1 : 0);
            }
            Check.due("15 rooms " + rooms, x.year(1), rooms);
            Check.due("15 all rooms a year later", x.year(1), 7);
        }
    }

    /** The eldest grows too: there was a fault on the way that there is no more at the end. */
    private static void faultsThenNotOnTheWay() {
        LowHeads x = Check.housed("room 0,0;person 19 40 0 0;person 18 40 0 9;");
        x.put(0, 0, 0);
        x.put(1, 0, 1);
        Check.due("15 behind a year", x.year(1), 1);
        LowHeads y = Check.housed("room 0,0;person 10 42 0 3;person 9 40 0 9;");
        y.put(0, 0, 0);
        y.put(1, 0, 1);
        Check.due("15 a fault behind one year", y.year(1), 1);
        LowHeads z = Check.housed("room 0,0;person 10 82 0 9;person 9 85 0 5;");
        z.put(0, 0, 0);
        z.put(1, 0, 1);
        Check.due("15 a fault now", z.first(0, 0), 1);
        Check.due("15 none behind a year", z.year(1), 0);
    }

    private static void byLaw() {
        for (int law = 0; law <= 1; law++) {
            LowHeads x = Check.housed("room 0,0,0;person 90 50 0 0;person 50 40 0 0;person 19 40 0 1;");
            x.law(law);
            for (int p = 0; p < 3; p++) {
                x.put(p, 0, p);
            }
            Check.due("15 law " + law, x.year(1), law);
        }
    }
}
