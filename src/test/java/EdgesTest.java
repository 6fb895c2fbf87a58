import java.lang.reflect.Method;
import java.lang.reflect.Modifier;
import java.util.ArrayList;
import java.util.List;

/**
 * Every call with every choice of arguments at and beside the bounds, in states from a new object
 * to a full house: it never throws, and answers what the slow oracle answers.
 */
public final class EdgesTest {
    private static final int[] NUMBERS = {-2147483648, -1000000001, -65536, -3, -2, -1, 0, 1, 2, 3, 5, 6, 7, 8, 9, 20, 21, 31, 32, 33,
        40, 41, 59, 60, 61, 63, 64, 65, 99, 100, 256, 65536, 2147483647};
    private static final int[] FEWER = {-2147483648, -2, -1, 0, 1, 2, 3, 5, 6, 7, 32, 63, 64, 2147483647};
    private static final int CALLS_OF_AN_OBJECT = 400;
    private static final int STATES = 6;

    private LowHeads x;
    private Oracle o;
    private int calls;

    private EdgesTest() {
    }

    public static void main(String[] args) throws ReflectiveOperationException {
        for (Method call : LowHeads.class.getMethods()) {
            if (call.getDeclaringClass() == LowHeads.class && !Modifier.isStatic(call.getModifiers())) {
                Method same = Oracle.class.getDeclaredMethod(call.getName(), call.getParameterTypes());
                for (int state = 0; state < STATES; state++) {
                    new EdgesTest().askAll(call, same, state);
                }
            }
        }
        Check.end();
    }

    private void askAll(Method call, Method same, int state) throws ReflectiveOperationException {
        int numbers = call.getParameterCount();
        int[] choice = numbers > 2 ? FEWER : NUMBERS;
        int all = (int) Math.pow(choice.length, numbers);
        begin(state);
        for (int k = 0; k < all; k++) {
            if (calls > CALLS_OF_AN_OBJECT) {
                begin(state);
            }
            Object[] arguments = new Object[numbers];
            int rest = k;
            for (int i = 0; i < numbers; i++) {
                int n = choice[rest % choice.length];
                rest /= choice.length;
                arguments[i] = call.getParameterTypes()[i] == long.class ? (Object) (long) n : (Object) n;
            }
            ask(call, same, arguments, state);
        }
    }

    private void ask(Method call, Method same, Object[] arguments, int state) throws ReflectiveOperationException {
        calls++;
        String what = "state " + state + ", " + call.getName() + List.of(arguments);
        Check.due(what, (Integer) call.invoke(x, arguments), (Integer) same.invoke(o, arguments));
    }

    private void begin(int state) {
        calls = 0;
        x = new LowHeads();
        o = new Oracle();
        String[] texts = {"", "room 0,10;room 5;", "person 50 60 9 1;person 19 50 0 9;", "room 7;person 5 30 3 3;", Houses.BIG,
            "room 0,8,16,24,32,40;room 40;room 0,0;" + Houses.SIX_PERSONS + Houses.allFriends(99)};
        tell(texts[state]);
        for (int[] c : comings(state)) {
            calls += 3;
            Check.due("put", x.put(c[0], c[1], c[2]), o.put(c[0], c[1], c[2]));
            Check.due("bend", x.bend(c[0], 1), o.bend(c[0], 1));
            Check.due("write", x.write(c[0], c[1], c[2]), o.write(c[0], c[1], c[2]));
        }
        if (state == 5) {
            calls += 2;
            Check.due("keep", x.keep(1), o.keep(1));
            Check.due("law", x.law(1), o.law(1));
        }
    }

    private void tell(String text) {
        for (int i = 0; i < text.length(); i += 8) {
            String piece = text.substring(i, Math.min(text.length(), i + 8));
            calls++;
            Check.due("feed", x.feed(piece.length(), Check.bytes(piece)), o.feed(piece.length(), Check.bytes(piece)));
        }
        calls++;
        Check.due("house", x.house(), o.house());
    }

    private static List<int[]> comings(int state) {
        List<int[]> all = new ArrayList<>();
        if (state == 3) {
            all.add(new int[] {0, 0, 0});
        }
        if (state == 4) {
            all.add(new int[] {0, 0, 1});
            all.add(new int[] {3, 0, 4});
            all.add(new int[] {5, 1, 0});
        }
        if (state == 5) {
            for (int p = 0; p < 6; p++) {
                all.add(new int[] {p, 0, 5 - p});
            }
        }
        return all;
    }
}
