import java.util.ArrayList;
import java.util.Arrays;
import java.util.HashMap;
import java.util.List;
import java.util.Map;

/**
 * The document once more, as slowly and plainly as may be: everything is tried, nothing is kept
 * for later. Random runs compare LowHeads with it.
 */
final class Oracle {
    static final int NONE = -1, UNKNOWN = -1000000001, OUTSIDE = -1000000002, NOT = -1000000003, FULL = -1000000004;

    /** One person; copied whole for every trial. */
    static final class Human {
        int age, inches, knees, grows, room = NONE, place = NONE, bend;

        Human copy() {
            Human h = new Human();
            h.age = age;
            h.inches = inches;
            h.knees = knees;
            h.grows = grows;
            h.room = room;
            h.place = place;
            h.bend = bend;
            return h;
        }
    }

    /** All that images keep. */
    static final class World {
        List<Human> people = new ArrayList<>();
        int law;
        long seed;

        World copy() {
            World w = new World();
            for (Human h : people) {
                w.people.add(h.copy());
            }
            w.law = law;
            w.seed = seed;
            return w;
        }
    }

    private record Token(char kind, int at, String text) {
    }

    private static final class Fault extends RuntimeException {
        private static final long serialVersionUID = 1L;
        final int number;
        final int at;

        Fault(int number, int at) {
            this.number = number;
            this.at = at;
        }
    }

    private String text = "";
    private int fault = NONE;
    private List<int[]> rooms = new ArrayList<>();
    private Map<List<Integer>, Integer> friends = new HashMap<>();
    private World world = new World();
    private final World[] images = new World[2];
    private final List<int[]> book = new ArrayList<>();

    int feed(int n, long bytes) {
        if (n < 1 || n > 8) {
            return OUTSIDE;
        }
        if (text.length() + n > 500) {
            return FULL;
        }
        for (int k = n - 1; k >= 0; k--) {
            text += (char) (bytes >>> 8 * k & 255);
        }
        return text.length();
    }

    private static List<Token> tokens(String text) {
        List<Token> all = new ArrayList<>();
        int i = 0;
        while (i < text.length()) {
            char c = text.charAt(i);
            int from = i;
            if (c == ' ') {
                i++;
            } else if (c >= 'a' && c <= 'z') {
                while (i < text.length() && text.charAt(i) >= 'a' && text.charAt(i) <= 'z') {
                    i++;
                }
                all.add(new Token('w', from, text.substring(from, i)));
            } else if (c >= '0' && c <= '9') {
                while (i < text.length() && text.charAt(i) >= '0' && text.charAt(i) <= '9') {
                    i++;
                }
                all.add(new Token('n', from, text.substring(from, i)));
            } else {
                i++;
                all.add(new Token('s', from, String.valueOf(c)));
            }
        }
        all.add(new Token('e', text.length(), ""));
        return all;
    }

    private static int number(Token t, int low, int high) {
        if (t.kind != 'n') {
            throw new Fault(1, t.at);
        }
        if (t.text.length() > 3 || Integer.parseInt(t.text) < low || Integer.parseInt(t.text) > high) {
            throw new Fault(2, t.at);
        }
        return Integer.parseInt(t.text);
    }

    private static boolean sign(Token t, String sign) {
        return t.kind == 's' && t.text.equals(sign);
    }

    int house() {
        List<int[]> newRooms = new ArrayList<>();
        List<Human> newPeople = new ArrayList<>();
        Map<List<Integer>, Integer> newFriends = new HashMap<>();
        List<Token> ts = tokens(text);
        text = "";
        try {
            int i = 0;
            while (ts.get(i).kind != 'e') {
                Token word = ts.get(i++);
                if (word.text.equals("room")) {
                    i = roomClause(ts, i, word, newRooms);
                } else if (word.text.equals("person")) {
                    i = personClause(ts, i, word, newPeople);
                } else if (word.text.equals("friends")) {
                    i = friendsClause(ts, i, word, newFriends, newPeople.size());
                } else {
                    throw new Fault(1, word.at);
                }
                if (!sign(ts.get(i), ";")) {
                    throw new Fault(1, ts.get(i).at);
                }
                i++;
            }
        } catch (Fault f) {
            fault = f.at;
            return -10 - f.number;
        }
        fault = NONE;
        rooms = newRooms;
        friends = newFriends;
        world.people = newPeople;
        book.clear();
        Arrays.fill(images, null);
        return newPeople.size();
    }

    private static int roomClause(List<Token> ts, int from, Token word, List<int[]> into) {
        if (into.size() == 3) {
            throw new Fault(3, word.at);
        }
        int i = from;
        int[] floors = new int[0];
        while (true) {
            int floor = number(ts.get(i), 0, 40);
            if (floors.length == 6) {
                throw new Fault(4, ts.get(i).at);
            }
            floors = Arrays.copyOf(floors, floors.length + 1);
            floors[floors.length - 1] = floor;
            i++;
            if (!sign(ts.get(i), ",")) {
                break;
            }
            i++;
        }
        into.add(floors);
        return i;
    }

    private static int personClause(List<Token> ts, int i, Token word, List<Human> into) {
        if (into.size() == 6) {
            throw new Fault(3, word.at);
        }
        Human h = new Human();
        h.age = number(ts.get(i), 0, 99);
        for (Human other : into) {
            if (other.age == h.age) {
                throw new Fault(4, ts.get(i).at);
            }
        }
        h.inches = number(ts.get(i + 1), 20, 90);
        h.knees = number(ts.get(i + 2), 0, 40);
        h.grows = number(ts.get(i + 3), 0, 9);
        into.add(h);
        return i + 4;
    }

    private static int friendsClause(List<Token> ts, int i, Token word, Map<List<Integer>, Integer> into, int told) {
        if (into.size() == 15) {
            throw new Fault(3, word.at);
        }
        int p = number(ts.get(i), 0, told - 1);
        int q = number(ts.get(i + 1), 0, told - 1);
        List<Integer> pair = List.of(Math.min(p, q), Math.max(p, q));
        if (p == q || into.containsKey(pair)) {
            throw new Fault(4, ts.get(i + 1).at);
        }
        into.put(pair, number(ts.get(i + 2), 1, 99));
        return i + 3;
    }

    int fault() {
        return fault;
    }

    int told(int what) {
        int somewhere = 0;
        for (int p = 0; p < world.people.size(); p++) {
            somewhere |= world.people.get(p).room == NONE ? 0 : 1 << p;
        }
        int[] answers = {rooms.size(), world.people.size(), friends.size(), text.length(), world.law, book.size(), somewhere};
        return what < 0 || what > 6 ? OUTSIDE : answers[what];
    }

    private boolean noRoom(int r) {
        return r < 0 || r >= rooms.size();
    }

    private boolean noPerson(int p) {
        return p < 0 || p >= world.people.size();
    }

    private boolean noPlace(int r, int i) {
        return noRoom(r) || i < 0 || i >= rooms.get(r).length;
    }

    private boolean noSet(int set) {
        return set < 0 || set >= 1 << world.people.size();
    }

    private static int at(World w, int r, int i) {
        for (int p = 0; p < w.people.size(); p++) {
            if (w.people.get(p).room == r && w.people.get(p).place == i) {
                return p;
            }
        }
        return NONE;
    }

    int room(int r, int i, int what) {
        if (noRoom(r) || i != NONE && noPlace(r, i)) {
            return UNKNOWN;
        }
        if (i == NONE) {
            return rooms.get(r).length;
        }
        return what == 0 ? rooms.get(r)[i] : what == 1 ? at(world, r, i) : OUTSIDE;
    }

    private int tall(Human h) {
        return rooms.get(h.room)[h.place] + h.inches;
    }

    private int head(Human h) {
        return tall(h) - h.bend;
    }

    int person(int p, int what) {
        if (noPerson(p)) {
            return UNKNOWN;
        }
        if (what < 0 || what > 7) {
            return OUTSIDE;
        }
        Human h = world.people.get(p);
        int head = h.room == NONE ? NONE : head(h);
        return new int[] {h.age, h.inches, h.knees, h.grows, h.room, h.place, h.room == NONE ? 0 : h.bend, head}[what];
    }

    int friends(int p, int q) {
        if (noPerson(p) || noPerson(q) || p == q) {
            return UNKNOWN;
        }
        return friends.getOrDefault(List.of(Math.min(p, q), Math.max(p, q)), 0);
    }

    int law(int v) {
        if (v != 0 && v != 1) {
            return OUTSIDE;
        }
        int was = world.law;
        world.law = v;
        return was;
    }

    private static int in(World w, int r) {
        int set = 0;
        for (int p = 0; p < w.people.size(); p++) {
            set |= w.people.get(p).room == r ? 1 << p : 0;
        }
        return set;
    }

    private static void stand(World w, int p, int r, int place) {
        Human h = w.people.get(p);
        h.room = r;
        h.place = place;
        h.bend = 0;
    }

    int put(int p, int r, int place) {
        if (noPerson(p) || noPlace(r, place)) {
            return UNKNOWN;
        }
        if (world.people.get(p).room != NONE || at(world, r, place) != NONE) {
            return NOT;
        }
        stand(world, p, r, place);
        return in(world, r);
    }

    int leave(int p) {
        if (noPerson(p)) {
            return UNKNOWN;
        }
        int was = world.people.get(p).room;
        if (was == NONE) {
            return NOT;
        }
        stand(world, p, NONE, NONE);
        return was;
    }

    int bend(int p, int v) {
        if (noPerson(p)) {
            return UNKNOWN;
        }
        Human h = world.people.get(p);
        if (v < 0 || v > h.knees) {
            return OUTSIDE;
        }
        if (h.room == NONE) {
            return NOT;
        }
        int was = h.bend;
        h.bend = v;
        return was;
    }

    /** From the eldest to the youngest. */
    private static List<Human> byAge(World w, int r) {
        List<Human> there = new ArrayList<>();
        for (Human h : w.people) {
            if (h.room == r) {
                there.add(h);
            }
        }
        there.sort((a, b) -> Integer.compare(b.age, a.age));
        return there;
    }

    private int[] firstFault(World w, int r) {
        List<Human> there = byAge(w, r);
        for (int p = 0; p < w.people.size(); p++) {
            Human h = w.people.get(p);
            int most = 0;
            for (int k = 0; k < there.size(); k++) {
                boolean named = w.law == 0 ? k == 0 : there.get(k).age > h.age;
                if (h.room == r && named) {
                    most = Math.max(most, head(h) - head(there.get(k)));
                }
            }
            if (most > 0) {
                return new int[] {p, most};
            }
        }
        return new int[] {NONE, NONE};
    }

    int first(int r, int what) {
        return noRoom(r) ? UNKNOWN : what < 0 || what > 1 ? OUTSIDE : firstFault(world, r)[what];
    }

    /** Tries one bend after the other. */
    private int bowAll(World w, int r) {
        List<Human> there = byAge(w, r);
        int high = 0;
        for (int k = 0; k < there.size(); k++) {
            Human h = there.get(k);
            boolean good = false;
            for (int bend = 0; bend <= h.knees && !good; bend++) {
                h.bend = bend;
                good = true;
                for (int j = 0; j < (w.law == 0 ? Math.min(k, 1) : k); j++) {
                    good &= head(h) <= head(there.get(j));
                }
            }
            high |= good ? 0 : 1 << w.people.indexOf(h);
        }
        return high;
    }

    int bow(int r) {
        return noRoom(r) ? UNKNOWN : bowAll(world, r);
    }

    private static void oneYear(World w) {
        for (Human h : w.people) {
            h.inches = h.age < 20 ? Math.min(90, h.inches + h.grows) : h.inches;
            h.age++;
        }
    }

    private int faulty(World w) {
        int set = 0;
        for (int r = 0; r < rooms.size(); r++) {
            set |= firstFault(w, r)[0] == NONE ? 0 : 1 << r;
        }
        return set;
    }

    int year(int n) {
        if (n < 1 || n > 60) {
            return OUTSIDE;
        }
        for (int i = 0; i < n; i++) {
            oneYear(world);
        }
        return faulty(world);
    }

    private int comesIn(World w, int p, int r, int place) {
        stand(w, p, r, place);
        int moves = 0;
        while (true) {
            int high = bowAll(w, r);
            if (high == 0) {
                return moves;
            }
            int who = NONE;
            for (int q = 0; q < w.people.size(); q++) {
                if ((high >> q & 1) != 0 && (who == NONE || w.people.get(q).age > w.people.get(who).age)) {
                    who = q;
                }
            }
            int own = rooms.get(r)[w.people.get(who).place];
            int goal = NONE;
            for (int floor = 0; floor < own && goal == NONE; floor++) {
                for (int i = rooms.get(r).length - 1; i >= 0; i--) {
                    goal = rooms.get(r)[i] == floor && at(w, r, i) == NONE ? i : goal;
                }
            }
            stand(w, who, goal == NONE ? NONE : r, goal);
            moves++;
        }
    }

    int come(int p, int r, int place) {
        if (noPerson(p) || noPlace(r, place)) {
            return UNKNOWN;
        }
        if (world.people.get(p).room != NONE || at(world, r, place) != NONE) {
            return NOT;
        }
        return comesIn(world, p, r, place);
    }

    /** All placings, person by person the lesser place first; the sum, then the places. */
    private int[] bestParty(int r, int set) {
        World w = world.copy();
        for (Human h : w.people) {
            h.room = NONE;
            h.place = NONE;
            h.bend = 0;
        }
        int[] best = new int[1 + w.people.size()];
        Arrays.fill(best, NONE);
        tryPlaces(w, r, set, 0, best);
        return best;
    }

    private void tryPlaces(World w, int r, int set, int p, int[] best) {
        if (p == w.people.size()) {
            if (bowAll(w, r) == 0) {
                int sum = 0;
                for (Human h : w.people) {
                    sum += h.room == r ? h.bend : 0;
                }
                if (best[0] == NONE || sum < best[0]) {
                    best[0] = sum;
                    for (int q = 0; q < p; q++) {
                        best[q + 1] = w.people.get(q).place;
                    }
                }
            }
            return;
        }
        if ((set >> p & 1) == 0) {
            tryPlaces(w, r, set, p + 1, best);
            return;
        }
        for (int i = 0; i < rooms.get(r).length; i++) {
            if (at(w, r, i) == NONE) {
                stand(w, p, r, i);
                tryPlaces(w, r, set, p + 1, best);
                stand(w, p, NONE, NONE);
            }
        }
    }

    int party(int r, int set, int p) {
        if (noRoom(r) || noSet(set) || p != NONE && noPerson(p)) {
            return UNKNOWN;
        }
        return bestParty(r, set)[p + 1];
    }

    int feast(int set, int p) {
        if (noSet(set) || p != NONE && p != -2 && noPerson(p)) {
            return UNKNOWN;
        }
        int n = world.people.size();
        Map<Integer, Integer> sums = new HashMap<>();
        int[] dealt = new int[n];
        Arrays.fill(dealt, NONE);
        int[] best = new int[n + 2];
        Arrays.fill(best, NONE);
        tryDeals(set, 0, dealt, best, sums);
        return p == NONE ? best[0] : p == -2 ? best[1] : best[p + 2];
    }

    private void tryDeals(int set, int p, int[] dealt, int[] best, Map<Integer, Integer> sums) {
        if (p == dealt.length) {
            int bends = 0;
            for (int r = 0; r < rooms.size(); r++) {
                int part = 0;
                for (int q = 0; q < p; q++) {
                    part |= dealt[q] == r ? 1 << q : 0;
                }
                int key = r * 64 + part;
                if (!sums.containsKey(key)) {
                    sums.put(key, bestParty(r, part)[0]);
                }
                if (sums.get(key) == NONE) {
                    return;
                }
                bends += sums.get(key);
            }
            int w = 0;
            for (List<Integer> pair : friends.keySet()) {
                int room = dealt[pair.get(0)];
                w += room != NONE && room == dealt[pair.get(1)] ? friends.get(pair) : 0;
            }
            if (best[0] == NONE || bends < best[0] || bends == best[0] && w > best[1]) {
                best[0] = bends;
                best[1] = w;
                System.arraycopy(dealt, 0, best, 2, p);
            }
            return;
        }
        if ((set >> p & 1) == 0) {
            tryDeals(set, p + 1, dealt, best, sums);
            return;
        }
        for (int r = 0; r < rooms.size(); r++) {
            dealt[p] = r;
            tryDeals(set, p + 1, dealt, best, sums);
            dealt[p] = NONE;
        }
    }

    int cuts(int r, int set) {
        if (noRoom(r) || noSet(set)) {
            return UNKNOWN;
        }
        if (Integer.bitCount(set) > rooms.get(r).length) {
            return NONE;
        }
        World w = world.copy();
        int place = 0;
        for (int p = 0; p < w.people.size(); p++) {
            boolean of = (set >> p & 1) != 0;
            stand(w, p, of ? r : NONE, of ? place++ : NONE);
        }
        List<Human> there = byAge(w, r);
        int[] heads = new int[there.size()];
        int sum = 0;
        for (int k = 0; k < there.size(); k++) {
            Human h = there.get(k);
            int let = Integer.MAX_VALUE;
            for (int j = 0; j < (w.law == 0 ? Math.min(k, 1) : k); j++) {
                let = Math.min(let, heads[j]);
            }
            int cut = 0;
            while (tall(h) - cut - h.knees > let) {
                cut++;
            }
            sum += cut;
            heads[k] = Math.min(tall(h) - cut, let);
        }
        return sum;
    }

    int till() {
        World w = world.copy();
        for (int y = 0; y < 60; y++) {
            if (faulty(w) != 0) {
                return y;
            }
            oneYear(w);
        }
        return 60;
    }

    int seen(int r, int what) {
        if (noRoom(r)) {
            return UNKNOWN;
        }
        if (what < 0 || what > 1) {
            return OUTSIDE;
        }
        if (firstFault(world, r)[0] == NONE) {
            return 0;
        }
        int set = 0;
        for (int p = 0; p < world.people.size(); p++) {
            if (world.people.get(p).room != r) {
                continue;
            }
            World w = world.copy();
            if (what == 1) {
                w.people.get(p).inches--;
                set |= firstFault(w, r)[0] == NONE ? 1 << p : 0;
                continue;
            }
            for (int age = 0; age <= 99; age++) {
                boolean taken = false;
                for (Human h : world.people) {
                    taken |= h.room == r && h.age == age;
                }
                w.people.get(p).age = age;
                set |= !taken && firstFault(w, r)[0] == NONE ? 1 << p : 0;
            }
        }
        return set;
    }

    int write(int p, int r, int place) {
        if (noPerson(p) || noPlace(r, place)) {
            return UNKNOWN;
        }
        if (book.size() == 20) {
            return FULL;
        }
        book.add(new int[] {p, r, place});
        return book.size();
    }

    int tear() {
        int had = book.size();
        book.clear();
        return had;
    }

    int judge(int what) {
        if (what < 0 || what > 1) {
            return OUTSIDE;
        }
        World w = world.copy();
        for (int p = 0; p < w.people.size(); p++) {
            stand(w, p, NONE, NONE);
        }
        int moves = 0;
        int wrong = NONE;
        for (int i = 0; i < book.size() && wrong == NONE; i++) {
            int[] c = book.get(i);
            if (w.people.get(c[0]).room != NONE || at(w, c[1], c[2]) != NONE) {
                wrong = i;
            } else {
                moves += comesIn(w, c[0], c[1], c[2]);
            }
        }
        return what == 0 ? wrong : moves;
    }

    private int draw(int n) {
        world.seed = (world.seed * 1103515245L + 12345L) % (1L << 31);
        return (int) (world.seed / 65536 % n);
    }

    int drift(int n) {
        if (n < 1 || n > 99) {
            return OUTSIDE;
        }
        if (rooms.isEmpty() || world.people.isEmpty()) {
            return NOT;
        }
        int moves = 0;
        for (int i = 0; i < n; i++) {
            int p = draw(world.people.size());
            int was = world.people.get(p).room;
            if (was != NONE) {
                stand(world, p, NONE, NONE);
                bowAll(world, was);
            } else {
                int r = draw(rooms.size());
                int place = draw(rooms.get(r).length);
                moves += at(world, r, place) == NONE ? comesIn(world, p, r, place) : 0;
            }
        }
        return moves;
    }

    int empty() {
        int were = Integer.bitCount(told(6));
        for (int p = 0; p < world.people.size(); p++) {
            stand(world, p, NONE, NONE);
        }
        return were;
    }

    int seed(int v) {
        if (v < 0) {
            return OUTSIDE;
        }
        int was = (int) world.seed;
        world.seed = v;
        return was;
    }

    int keep(int i) {
        if (i != 0 && i != 1) {
            return UNKNOWN;
        }
        images[i] = world.copy();
        return 1;
    }

    int goBack(int i) {
        if (i != 0 && i != 1) {
            return UNKNOWN;
        }
        if (images[i] == null) {
            return NOT;
        }
        world = images[i].copy();
        return 1;
    }
}
