/** Promise 23, tear: THE BOOK is empty; how many comings it had. */
public final class Promise23Test {
    private Promise23Test() {
    }

    public static void main(String[] args) {
        howMany();
        emptyThen();
        nothingElseChanges();
        Check.end();
    }

    private static void howMany() {
        Check.due("23 of a new object", new LowHeads().tear(), 0);
        for (int n = 0; n <= 20; n++) {
            LowHeads x = Houses.big();
            for (int i = 0; i < n; i++) {
                x.write(0, 0, 0);
            }
            Check.due("23 tear", x.tear(), n);
            Check.due("23 tear again", x.tear(), 0);
        }
        LowHeads x = Houses.big();
        for (int i = 0; i < 25; i++) {
            x.write(0, 0, 0);
        }
        Check.due("23 20 at most", x.tear(), 20);
    }

    private static void emptyThen() {
        LowHeads x = Houses.big();
        x.write(0, 0, 0);
        x.write(0, 0, 0);
        Check.due("23 wrong ahead", x.judge(0), 1);
        x.tear();
        Check.due("23 no comings", x.told(5), 0);
        Check.due("23 nothing is wrong", x.judge(0), LowHeads.NONE);
        Check.due("23 no moves", x.judge(1), 0);
        Check.due("23 the first again", x.write(1, 1, 0), 1);
        Check.due("23 nothing of the old book", x.judge(0), LowHeads.NONE);
    }

    private static void nothingElseChanges() {
        Check.changesNothing("23 tear and write", Houses::livedIn, x -> x.tear() + x.write(4, 0, 0) + x.write(1, 0, 0));
        Check.changesNothing("23 tear an empty book", Houses::big, x -> x.tear());
    }
}
