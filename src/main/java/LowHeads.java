/**
 * No head above a head: who stands where in rooms with floors of steps, and who must bend.
 * The numbered promises of the document say what every call answers; refusals are the four
 * numbers far below all that is counted, and what is refused changes nothing.
 */
public final class LowHeads {
    public static final int NONE = -1, UNKNOWN = -1000000001, OUTSIDE = -1000000002, NOT = -1000000003, FULL = -1000000004;

    private static final int MOST_BYTES = 500;
    private static final int MOST_ROOMS = 3;
    private static final int MOST_PLACES = 6;
    private static final int MOST_PERSONS = 6;
    private static final int MOST_FRIENDS = 15;
    private static final int MOST_COMINGS = 20;
    private static final int MOST_IMAGES = 2;
    private static final int MOST_YEARS = 60;
    private static final int MOST_DRAWS = 99;
    private static final int MOST_AGE = 99;
    private static final int MOST_INCHES = 90;
    private static final int GROWN_UP = 20;
    private static final int ALL_SETS = 1 << MOST_PERSONS;
    private static final int LAW_OF_ALL_OLDER = 1;
    private static final int SUM_OF_FRIENDS = -2;
    private static final int ANSWER_AHEAD_OF_FAULTS = -10;

    private final House home;
    private final Scene scene;
    private final Evening now;
    private final Scene trialScene;
    private final Evening trial;
    private final Reader reader;
    private final PartySearch parties;
    private final FeastSearch feasts;
    private final Book book;
    private final Scene[] images;
    private final boolean[] kept;
    private int faultByte;

    public LowHeads() {
        home = new House();
        scene = new Scene();
        now = new Evening(home, scene);
        trialScene = new Scene();
        trial = new Evening(home, trialScene);
        reader = new Reader();
        parties = new PartySearch(home, scene);
        feasts = new FeastSearch(home, parties);
        book = new Book();
        images = new Scene[MOST_IMAGES];
        for (int i = 0; i < MOST_IMAGES; i++) {
            images[i] = new Scene();
        }
        kept = new boolean[MOST_IMAGES];
        faultByte = NONE;
    }

    // ---- the house

    public int feed(int n, long bytes) {
        if (n < 1 || n > 8) {
            return OUTSIDE;
        }
        if (reader.length + n > MOST_BYTES) {
            return FULL;
        }
        reader.takeBytes(n, bytes);
        return reader.length;
    }

    public int house() {
        reader.readAll();
        reader.length = 0;
        faultByte = reader.faultByte;
        if (reader.faultNumber != 0) {
            return ANSWER_AHEAD_OF_FAULTS - reader.faultNumber;
        }
        home.copyFrom(reader.draft);
        scene.begin(home);
        parties.forget();
        book.count = 0;
        for (int i = 0; i < MOST_IMAGES; i++) {
            kept[i] = false;
        }
        return home.persons;
    }

    public int fault() {
        return faultByte;
    }

    public int told(int what) {
        switch (what) {
            case 0:
                return home.rooms;
            case 1:
                return home.persons;
            case 2:
                return home.friendships;
            case 3:
                return reader.length;
            case 4:
                return scene.law;
            case 5:
                return book.count;
            case 6:
                return scene.somewhere();
            default:
                return OUTSIDE;
        }
    }

    public int room(int r, int i, int what) {
        if (!home.hasRoom(r)) {
            return UNKNOWN;
        }
        if (i == NONE) {
            return home.placesOf(r);
        }
        if (!home.hasPlace(r, i)) {
            return UNKNOWN;
        }
        if (what < 0 || what > 1) {
            return OUTSIDE;
        }
        return what == 0 ? home.floorAt(r, i) : scene.whoIsAt(r, i);
    }

    public int person(int p, int what) {
        if (!home.hasPerson(p)) {
            return UNKNOWN;
        }
        switch (what) {
            case 0:
                return scene.age[p];
            case 1:
                return scene.inches[p];
            case 2:
                return home.knees[p];
            case 3:
                return home.grows[p];
            case 4:
                return scene.roomOf[p];
            case 5:
                return scene.placeOf[p];
            case 6:
                return scene.bendOf[p];
            case 7:
                return scene.roomOf[p] == NONE ? NONE : now.headOf(p);
            default:
                return OUTSIDE;
        }
    }

    public int friends(int p, int q) {
        if (!home.hasPerson(p) || !home.hasPerson(q) || p == q) {
            return UNKNOWN;
        }
        return home.friendship(p, q);
    }

    public int law(int v) {
        if (v < 0 || v > 1) {
            return OUTSIDE;
        }
        int was = scene.law;
        scene.law = v;
        return was;
    }

    // ---- who is where

    public int put(int p, int r, int place) {
        if (!isComing(p, r, place)) {
            return UNKNOWN;
        }
        if (!scene.canStandAt(p, r, place)) {
            return NOT;
        }
        scene.standAt(p, r, place);
        return scene.whoIsIn(r);
    }

    public int leave(int p) {
        if (!home.hasPerson(p)) {
            return UNKNOWN;
        }
        int was = scene.roomOf[p];
        if (was == NONE) {
            return NOT;
        }
        scene.goOut(p);
        return was;
    }

    public int bend(int p, int v) {
        if (!home.hasPerson(p)) {
            return UNKNOWN;
        }
        if (v < 0 || v > home.knees[p]) {
            return OUTSIDE;
        }
        if (scene.roomOf[p] == NONE) {
            return NOT;
        }
        int was = scene.bendOf[p];
        scene.bendOf[p] = v;
        return was;
    }

    public int first(int r, int what) {
        if (!home.hasRoom(r)) {
            return UNKNOWN;
        }
        if (what < 0 || what > 1) {
            return OUTSIDE;
        }
        int p = now.firstTooHigh(r);
        return p == NONE || what == 0 ? p : now.excessOf(p, r);
    }

    public int bow(int r) {
        return home.hasRoom(r) ? now.allBow(r) : UNKNOWN;
    }

    public int year(int n) {
        if (n < 1 || n > MOST_YEARS) {
            return OUTSIDE;
        }
        for (int i = 0; i < n; i++) {
            now.passYear();
        }
        return now.roomsWithFault();
    }

    public int come(int p, int r, int place) {
        if (!isComing(p, r, place)) {
            return UNKNOWN;
        }
        if (!scene.canStandAt(p, r, place)) {
            return NOT;
        }
        return now.comesIn(p, r, place);
    }

    // ---- parties

    public int party(int r, int set, int p) {
        if (!home.hasRoom(r) || !home.hasAll(set) || (p != NONE && !home.hasPerson(p))) {
            return UNKNOWN;
        }
        if (!parties.findPlaces(r, set)) {
            return NONE;
        }
        if (p == NONE) {
            return parties.leastSum();
        }
        return (set >> p & 1) == 0 ? NONE : parties.placeOf(p);
    }

    public int feast(int set, int p) {
        if (!home.hasAll(set) || (p != NONE && p != SUM_OF_FRIENDS && !home.hasPerson(p))) {
            return UNKNOWN;
        }
        if (!feasts.findDeal(set)) {
            return NONE;
        }
        if (p == NONE) {
            return feasts.leastBends;
        }
        return p == SUM_OF_FRIENDS ? feasts.mostFriends : feasts.roomFor(p);
    }

    public int cuts(int r, int set) {
        if (!home.hasRoom(r) || !home.hasAll(set)) {
            return UNKNOWN;
        }
        if (Integer.bitCount(set) > home.placesOf(r)) {
            return NONE;
        }
        placeInRow(r, set);
        return trial.inchesToCut(r);
    }

    public int till() {
        trialScene.copyFrom(scene);
        for (int years = 0; years < MOST_YEARS; years++) {
            if (trial.roomsWithFault() != 0) {
                return years;
            }
            trial.passYear();
        }
        return MOST_YEARS;
    }

    public int seen(int r, int what) {
        if (!home.hasRoom(r)) {
            return UNKNOWN;
        }
        if (what < 0 || what > 1) {
            return OUTSIDE;
        }
        if (now.firstTooHigh(r) == NONE) {
            return 0;
        }
        trialScene.copyFrom(scene);
        return what == 0 ? suspectsIn(r) : heelsIn(r);
    }

    // ---- books, draws, images

    public int write(int p, int r, int place) {
        if (!isComing(p, r, place)) {
            return UNKNOWN;
        }
        if (book.count >= MOST_COMINGS) {
            return FULL;
        }
        book.append(p, r, place);
        return book.count;
    }

    public int tear() {
        int had = book.count;
        book.count = 0;
        return had;
    }

    public int judge(int what) {
        if (what < 0 || what > 1) {
            return OUTSIDE;
        }
        trialScene.copyFrom(scene);
        trialScene.sendAllOut();
        int moves = 0;
        for (int i = 0; i < book.count && i < MOST_COMINGS; i++) {
            if (!trialScene.canStandAt(book.person[i], book.room[i], book.place[i])) {
                return what == 0 ? i : moves;
            }
            moves += trial.comesIn(book.person[i], book.room[i], book.place[i]);
        }
        return what == 0 ? NONE : moves;
    }

    public int drift(int n) {
        if (n < 1 || n > MOST_DRAWS) {
            return OUTSIDE;
        }
        if (home.persons == 0 || home.rooms == 0) {
            return NOT;
        }
        int moves = 0;
        for (int i = 0; i < n; i++) {
            moves += now.passByDraw();
        }
        return moves;
    }

    public int empty() {
        int were = Integer.bitCount(scene.somewhere());
        scene.sendAllOut();
        return were;
    }

    public int seed(int v) {
        if (v < 0) {
            return OUTSIDE;
        }
        int was = scene.seed;
        scene.seed = v;
        return was;
    }

    public int keep(int i) {
        if (!isImage(i)) {
            return UNKNOWN;
        }
        images[i].copyFrom(scene);
        kept[i] = true;
        return 1;
    }

    public int goBack(int i) {
        if (!isImage(i)) {
            return UNKNOWN;
        }
        if (!kept[i]) {
            return NOT;
        }
        scene.copyFrom(images[i]);
        return 1;
    }

    // ---- what several calls share

    private boolean isComing(int p, int r, int place) {
        return home.hasPerson(p) && home.hasPlace(r, place);
    }

    private boolean isImage(int i) {
        return i >= 0 && i < MOST_IMAGES;
    }

    /** Puts the k-th of a set at place k of a room of the trial scene, where nobody else is. */
    private void placeInRow(int r, int set) {
        trialScene.copyFrom(scene);
        trialScene.sendAllOut();
        int place = 0;
        for (int p = 0; p < home.persons; p++) {
            if ((set >> p & 1) != 0) {
                trialScene.standAt(p, r, place);
                place++;
            }
        }
    }

    private int suspectsIn(int r) {
        int suspects = 0;
        for (int p = 0; p < home.persons; p++) {
            if (trialScene.roomOf[p] == r) {
                int own = trialScene.age[p];
                if (someAgeIsLawful(p, r)) {
                    suspects |= 1 << p;
                }
                trialScene.age[p] = own;
            }
        }
        return suspects;
    }

    /**
     * Only the order of ages counts, so the least age of each gap between the others stands for
     * the whole gap; in the gap of its own age the room has its fault, whichever age is tried.
     */
    private boolean someAgeIsLawful(int p, int r) {
        int others = trialScene.whoIsIn(r) & ~(1 << p);
        for (int q = NONE; q < home.persons; q++) {
            if (q != NONE && (others >> q & 1) == 0) {
                continue;
            }
            int age = q == NONE ? 0 : trialScene.age[q] + 1;
            if (age <= MOST_AGE && !trialScene.someoneHasAge(others, age)) {
                trialScene.age[p] = age;
                if (trial.firstTooHigh(r) == NONE) {
                    return true;
                }
            }
        }
        return false;
    }

    private int heelsIn(int r) {
        int heels = 0;
        for (int p = 0; p < home.persons; p++) {
            if (trialScene.roomOf[p] == r) {
                trialScene.inches[p]--;
                if (trial.firstTooHigh(r) == NONE) {
                    heels |= 1 << p;
                }
                trialScene.inches[p]++;
            }
        }
        return heels;
    }

    /** The house as it was told: what no year and no coming changes, and how all begin. */
    private static final class House {
        int rooms;
        int persons;
        int friendships;
        final int[] places = new int[MOST_ROOMS];
        final int[] floors = new int[MOST_ROOMS * MOST_PLACES];
        final int[] ageAtFirst = new int[MOST_PERSONS];
        final int[] inchesAtFirst = new int[MOST_PERSONS];
        final int[] knees = new int[MOST_PERSONS];
        final int[] grows = new int[MOST_PERSONS];
        final int[] weights = new int[MOST_PERSONS * MOST_PERSONS];

        void clearAll() {
            rooms = 0;
            persons = 0;
            friendships = 0;
            for (int i = 0; i < weights.length; i++) {
                weights[i] = 0;
            }
        }

        void copyFrom(House other) {
            rooms = other.rooms;
            persons = other.persons;
            friendships = other.friendships;
            copyRow(other.places, places);
            copyRow(other.floors, floors);
            copyRow(other.ageAtFirst, ageAtFirst);
            copyRow(other.inchesAtFirst, inchesAtFirst);
            copyRow(other.knees, knees);
            copyRow(other.grows, grows);
            copyRow(other.weights, weights);
        }

        boolean hasRoom(int r) {
            return r >= 0 && r < rooms;
        }

        boolean hasPlace(int r, int i) {
            return r >= 0 && r < rooms && i >= 0 && i < places[r];
        }

        boolean hasPerson(int p) {
            return p >= 0 && p < persons;
        }

        boolean hasAll(int set) {
            return set >>> persons == 0;
        }

        int placesOf(int r) {
            return r >= 0 && r < rooms ? places[r] : 0;
        }

        int floorAt(int r, int i) {
            boolean there = r >= 0 && r < rooms && i >= 0 && i < places[r];
            return there ? floors[r * MOST_PLACES + i] : 0;
        }

        int friendship(int p, int q) {
            return hasPerson(p) && hasPerson(q) ? weights[p * MOST_PERSONS + q] : 0;
        }

        int friendshipWithAll(int p, int set) {
            int sum = 0;
            for (int q = 0; q < persons; q++) {
                if ((set >> q & 1) != 0) {
                    sum += friendship(p, q);
                }
            }
            return sum;
        }
    }

    private static void copyRow(int[] from, int[] to) {
        System.arraycopy(from, 0, to, 0, Math.min(from.length, to.length));
    }

    /** All that an image keeps: where all are, bends, ages, inches, law and seed. */
    private static final class Scene {
        final int[] roomOf = new int[MOST_PERSONS];
        final int[] placeOf = new int[MOST_PERSONS];
        final int[] bendOf = new int[MOST_PERSONS];
        final int[] age = new int[MOST_PERSONS];
        final int[] inches = new int[MOST_PERSONS];
        int law;
        int seed;

        Scene() {
            for (int p = 0; p < MOST_PERSONS; p++) {
                roomOf[p] = NONE;
                placeOf[p] = NONE;
            }
        }

        void begin(House house) {
            sendAllOut();
            copyRow(house.ageAtFirst, age);
            copyRow(house.inchesAtFirst, inches);
        }

        void copyFrom(Scene other) {
            copyRow(other.roomOf, roomOf);
            copyRow(other.placeOf, placeOf);
            copyRow(other.bendOf, bendOf);
            copyRow(other.age, age);
            copyRow(other.inches, inches);
            law = other.law;
            seed = other.seed;
        }

        void standAt(int p, int r, int place) {
            roomOf[p] = r;
            placeOf[p] = place;
            bendOf[p] = 0;
        }

        /** A bend belongs to a place: one that is nowhere has none. */
        void goOut(int p) {
            standAt(p, NONE, NONE);
        }

        void sendAllOut() {
            for (int p = 0; p < MOST_PERSONS; p++) {
                goOut(p);
            }
        }

        int whoIsAt(int r, int place) {
            for (int p = 0; p < MOST_PERSONS; p++) {
                if (roomOf[p] == r && placeOf[p] == place) {
                    return p;
                }
            }
            return NONE;
        }

        int whoIsIn(int r) {
            int set = 0;
            for (int p = 0; p < MOST_PERSONS; p++) {
                if (roomOf[p] == r) {
                    set |= 1 << p;
                }
            }
            return set;
        }

        int whoIsOlderIn(int r, int years) {
            int set = 0;
            for (int p = 0; p < MOST_PERSONS; p++) {
                if (roomOf[p] == r && age[p] > years) {
                    set |= 1 << p;
                }
            }
            return set;
        }

        int somewhere() {
            return (ALL_SETS - 1) & ~whoIsIn(NONE);
        }

        boolean canStandAt(int p, int r, int place) {
            return roomOf[p] == NONE && whoIsAt(r, place) == NONE;
        }

        boolean someoneHasAge(int set, int years) {
            for (int p = 0; p < MOST_PERSONS; p++) {
                if ((set >> p & 1) != 0 && age[p] == years) {
                    return true;
                }
            }
            return false;
        }

        int eldestOf(int set) {
            int eldest = NONE;
            for (int p = 0; p < MOST_PERSONS; p++) {
                if ((set >> p & 1) != 0 && (eldest == NONE || age[p] > age[eldest])) {
                    eldest = p;
                }
            }
            return eldest;
        }
    }

    /** What happens in the rooms of a house on one scene: heads, law, bowing, years, comings. */
    private static final class Evening {
        private static final int MOST_MOVES = 1000;

        private final House house;
        private final Scene scene;

        Evening(House house, Scene scene) {
            this.house = house;
            this.scene = scene;
        }

        private int tallOf(int p) {
            return house.floorAt(scene.roomOf[p], scene.placeOf[p]) + scene.inches[p];
        }

        int headOf(int p) {
            int floor = house.floorAt(scene.roomOf[p], scene.placeOf[p]);
            return floor + scene.inches[p] - scene.bendOf[p];
        }

        /** By how much a head is above the lowest of those that the law names; 0: it is not. */
        int excessOf(int p, int r) {
            int older = scene.whoIsOlderIn(r, scene.age[p]);
            if (scene.law != LAW_OF_ALL_OLDER) {
                int eldest = scene.eldestOf(older);
                return eldest == NONE ? 0 : Math.max(0, headOf(p) - headOf(eldest));
            }
            int most = 0;
            for (int q = 0; q < house.persons; q++) {
                if ((older >> q & 1) != 0) {
                    most = Math.max(most, headOf(p) - headOf(q));
                }
            }
            return most;
        }

        int firstTooHigh(int r) {
            for (int p = 0; p < house.persons; p++) {
                if (scene.roomOf[p] == r && excessOf(p, r) > 0) {
                    return p;
                }
            }
            return NONE;
        }

        int roomsWithFault() {
            int set = 0;
            for (int r = 0; r < house.rooms; r++) {
                if (firstTooHigh(r) != NONE) {
                    set |= 1 << r;
                }
            }
            return set;
        }

        int allBow(int r) {
            int left = scene.whoIsIn(r);
            int p = scene.eldestOf(left);
            if (p == NONE) {
                return 0;
            }
            scene.bendOf[p] = 0;
            int limit = tallOf(p);
            int tooHigh = 0;
            for (int k = 1; k < MOST_PERSONS; k++) {
                left &= ~(1 << p);
                p = scene.eldestOf(left);
                if (p == NONE) {
                    break;
                }
                int need = Math.max(0, tallOf(p) - limit);
                scene.bendOf[p] = Math.min(need, house.knees[p]);
                if (need > house.knees[p]) {
                    tooHigh |= 1 << p;
                }
                limit = nextLimit(limit, headOf(p));
            }
            return tooHigh;
        }

        private int nextLimit(int limit, int head) {
            return scene.law == LAW_OF_ALL_OLDER ? Math.min(limit, head) : limit;
        }

        void passYear() {
            for (int p = 0; p < house.persons; p++) {
                if (scene.age[p] < GROWN_UP) {
                    scene.inches[p] = Math.min(MOST_INCHES, scene.inches[p] + house.grows[p]);
                }
                scene.age[p]++;
            }
        }

        int comesIn(int p, int r, int place) {
            scene.standAt(p, r, place);
            int moves = 0;
            for (int k = 0; k < MOST_MOVES; k++) {
                int q = scene.eldestOf(allBow(r));
                if (q == NONE) {
                    break;
                }
                moveDownOrOut(q, r);
                moves++;
            }
            return moves;
        }

        private void moveDownOrOut(int p, int r) {
            int lowest = lowestFree(r);
            if (lowest != NONE && house.floorAt(r, lowest) < house.floorAt(r, scene.placeOf[p])) {
                scene.standAt(p, r, lowest);
            } else {
                scene.goOut(p);
            }
        }

        private int lowestFree(int r) {
            int lowest = NONE;
            for (int i = 0; i < house.placesOf(r); i++) {
                boolean lower = lowest == NONE || house.floorAt(r, i) < house.floorAt(r, lowest);
                if (lower && scene.whoIsAt(r, i) == NONE) {
                    lowest = i;
                }
            }
            return lowest;
        }

        /** Of all in a room, from the eldest on, what is to be cut below those without bends. */
        int inchesToCut(int r) {
            int left = scene.whoIsIn(r);
            int p = scene.eldestOf(left);
            if (p == NONE) {
                return 0;
            }
            int limit = tallOf(p);
            int sum = 0;
            for (int k = 1; k < MOST_PERSONS; k++) {
                left &= ~(1 << p);
                p = scene.eldestOf(left);
                if (p == NONE) {
                    break;
                }
                sum += Math.max(0, tallOf(p) - house.knees[p] - limit);
                limit = nextLimit(limit, tallOf(p));
            }
            return sum;
        }

        int passByDraw() {
            int p = drawOf(house.persons);
            int r = scene.roomOf[p];
            if (r != NONE) {
                scene.goOut(p);
                allBow(r);
                return 0;
            }
            r = drawOf(house.rooms);
            int place = drawOf(house.placesOf(r));
            return scene.canStandAt(p, r, place) ? comesIn(p, r, place) : 0;
        }

        private int drawOf(int n) {
            scene.seed = (int) ((scene.seed * 1103515245L + 12345L) & 2147483647L);
            return n > 0 ? scene.seed / 65536 % n : 0;
        }
    }

    /** The text, and how it is read into the draft of a house up to its first fault. */
    private static final class Reader {
        private static final int CANNOT_STAND = 1;
        private static final int OUT_OF_BOUNDS = 2;
        private static final int TOO_MANY = 3;
        private static final int AGAIN = 4;
        private static final int MOST_FIGURES = 3;

        final House draft = new House();
        int length;
        int faultNumber;
        int faultByte;
        private final byte[] text = new byte[MOST_BYTES];
        private int at;
        private int start;
        private int value;

        void takeBytes(int n, long bytes) {
            for (int k = n - 1; k >= 0 && length < MOST_BYTES; k--) {
                text[length] = (byte) (bytes >> 8 * k);
                length++;
            }
        }

        void readAll() {
            draft.clearAll();
            faultNumber = 0;
            faultByte = NONE;
            at = 0;
            boolean good = true;
            for (int k = 0; k < MOST_BYTES && good; k++) {
                skipBlanks();
                good = at < length && readClause();
            }
        }

        private boolean readClause() {
            start = at;
            if (isWord("room")) {
                return draft.rooms < MOST_ROOMS ? readRoom() : isFault(TOO_MANY, start);
            }
            if (isWord("person")) {
                return draft.persons < MOST_PERSONS ? readPerson() : isFault(TOO_MANY, start);
            }
            if (isWord("friends")) {
                return draft.friendships < MOST_FRIENDS ? readFriends() : isFault(TOO_MANY, start);
            }
            return isFault(CANNOT_STAND, start);
        }

        private boolean readRoom() {
            int r = draft.rooms;
            int places = 0;
            boolean more = true;
            for (int k = 0; k <= MOST_PLACES && more; k++) {
                if (!readNumber(0, 40)) {
                    return false;
                }
                if (places >= MOST_PLACES) {
                    return isFault(AGAIN, start);
                }
                draft.floors[r * MOST_PLACES + places] = value;
                places++;
                more = takeSign(',');
            }
            draft.places[r] = places;
            draft.rooms++;
            return readEnd();
        }

        private boolean readPerson() {
            int p = draft.persons;
            if (!readNumber(0, MOST_AGE)) {
                return false;
            }
            for (int q = 0; q < p; q++) {
                if (draft.ageAtFirst[q] == value) {
                    return isFault(AGAIN, start);
                }
            }
            draft.ageAtFirst[p] = value;
            if (!readNumber(20, MOST_INCHES)) {
                return false;
            }
            draft.inchesAtFirst[p] = value;
            if (!readNumber(0, 40)) {
                return false;
            }
            draft.knees[p] = value;
            if (!readNumber(0, 9)) {
                return false;
            }
            draft.grows[p] = value;
            draft.persons++;
            return readEnd();
        }

        private boolean readFriends() {
            if (!readNumber(0, draft.persons - 1)) {
                return false;
            }
            int p = value;
            if (!readNumber(0, draft.persons - 1)) {
                return false;
            }
            int q = value;
            if (p == q || draft.friendship(p, q) != 0) {
                return isFault(AGAIN, start);
            }
            if (!readNumber(1, 99)) {
                return false;
            }
            draft.weights[p * MOST_PERSONS + q] = value;
            draft.weights[q * MOST_PERSONS + p] = value;
            draft.friendships++;
            return readEnd();
        }

        private boolean readEnd() {
            return takeSign(';') || isFault(CANNOT_STAND, at);
        }

        /** Always false, so that a reading that meets a fault ends with it. */
        private boolean isFault(int number, int where) {
            faultNumber = number;
            faultByte = where;
            return false;
        }

        private void skipBlanks() {
            while (at < length && text[at] == ' ') {
                at++;
            }
        }

        private boolean takeSign(char sign) {
            skipBlanks();
            if (at < length && text[at] == sign) {
                at++;
                return true;
            }
            return false;
        }

        /** Takes the word here if it is this one and no letter goes on behind it. */
        private boolean isWord(String word) {
            int end = at + word.length();
            if (end > length || (end < length && text[end] >= 'a' && text[end] <= 'z')) {
                return false;
            }
            for (int k = 0; k < word.length(); k++) {
                if (text[at + k] != word.charAt(k)) {
                    return false;
                }
            }
            at = end;
            return true;
        }

        private boolean readNumber(int least, int most) {
            skipBlanks();
            start = at;
            value = 0;
            while (at < length && text[at] >= '0' && text[at] <= '9') {
                if (at - start < MOST_FIGURES) {
                    value = value * 10 + text[at] - '0';
                }
                at++;
            }
            if (at == start) {
                return isFault(CANNOT_STAND, at);
            }
            if (at - start > MOST_FIGURES || value < least || value > most) {
                return isFault(OUT_OF_BOUNDS, start);
            }
            return true;
        }
    }

    /**
     * The best places for a set in a room. A choice is one number, its sum of bends above the
     * places of persons 0, 1 .. in three bits each: the least number is the first of the best,
     * and since it only grows from person to person, a choice that has reached the best is left.
     */
    private static final class PartySearch {
        private static final int BITS_OF_PLACE = 3;
        private static final int BITS_OF_PLACES = BITS_OF_PLACE * MOST_PERSONS;
        private static final int NO_CHOICE = 2147483647;
        private static final int NOT_LOOKED_FOR = -2;

        private final House house;
        private final Scene scene;
        private final int[] order = new int[MOST_PERSONS];
        private final int[] likeAhead = new int[MOST_PLACES];
        private final int[] sums = new int[2 * MOST_ROOMS * ALL_SETS];
        private final int[] inchesThen = new int[MOST_PERSONS];
        private int guests;
        private int room;
        private int lowestFloor;
        private boolean placesCount;
        private int best;

        PartySearch(House house, Scene scene) {
            this.house = house;
            this.scene = scene;
        }

        void forget() {
            for (int i = 0; i < sums.length; i++) {
                sums[i] = NOT_LOOKED_FOR;
            }
            copyRow(scene.inches, inchesThen);
        }

        /** Sums once found hold as long as nobody has grown (ages keep their order). */
        private void forgetIfGrown() {
            for (int p = 0; p < MOST_PERSONS; p++) {
                if (scene.inches[p] != inchesThen[p]) {
                    forget();
                    return;
                }
            }
        }

        /** Finds the sums of all parts of a set in all rooms, where they are not known still. */
        void findSums(int set) {
            forgetIfGrown();
            placesCount = false;
            for (int r = 0; r < house.rooms; r++) {
                for (int part = 0; part < ALL_SETS; part++) {
                    int i = indexOf(r, part);
                    if ((part & ~set) == 0 && sums[i] == NOT_LOOKED_FOR) {
                        sums[i] = findBest(r, part) ? leastSum() : NONE;
                    }
                }
            }
        }

        int sumOf(int r, int set) {
            return house.hasRoom(r) && house.hasAll(set) ? sums[indexOf(r, set)] : NONE;
        }

        private int indexOf(int r, int set) {
            return (scene.law * MOST_ROOMS + r) * ALL_SETS + set;
        }

        boolean findPlaces(int r, int set) {
            placesCount = true;
            return findBest(r, set);
        }

        int leastSum() {
            return best >> BITS_OF_PLACES;
        }

        int placeOf(int p) {
            return best >> shiftOf(p) & (1 << BITS_OF_PLACE) - 1;
        }

        private static int shiftOf(int p) {
            return BITS_OF_PLACE * (MOST_PERSONS - 1 - p);
        }

        private boolean findBest(int r, int set) {
            best = NO_CHOICE;
            room = r;
            orderByAge(set);
            lookAtFloors();
            if (guests > house.placesOf(r)) {
                return false;
            }
            placeFrom(0, 0, 0, 0);
            return best != NO_CHOICE;
        }

        private void orderByAge(int set) {
            int left = set;
            guests = 0;
            for (int k = 0; k < MOST_PERSONS; k++) {
                int p = scene.eldestOf(left);
                if (p == NONE) {
                    break;
                }
                order[k] = p;
                guests++;
                left &= ~(1 << p);
            }
        }

        /** Where only sums count, of free places with like floors the first stands for all. */
        private void lookAtFloors() {
            lowestFloor = house.floorAt(room, 0);
            for (int i = 0; i < house.placesOf(room) && i < MOST_PLACES; i++) {
                lowestFloor = Math.min(lowestFloor, house.floorAt(room, i));
                likeAhead[i] = 0;
                for (int j = 0; j < i && !placesCount; j++) {
                    if (house.floorAt(room, j) == house.floorAt(room, i)) {
                        likeAhead[i] |= 1 << j;
                    }
                }
            }
        }

        private void placeFrom(int k, int limit, int taken, int choice) {
            if (k >= guests || k >= MOST_PERSONS) {
                best = choice;
                return;
            }
            int p = order[k];
            for (int i = 0; i < house.placesOf(room) && i < MOST_PLACES; i++) {
                if ((taken >> i & 1) != 0 || (likeAhead[i] & ~taken) != 0) {
                    continue;
                }
                int tall = house.floorAt(room, i) + scene.inches[p];
                int bend = k == 0 ? 0 : Math.max(0, tall - limit);
                if (bend > house.knees[p]) {
                    continue;
                }
                int next = choice + (bend << BITS_OF_PLACES) + (placesCount ? i << shiftOf(p) : 0);
                int nextLimit = k == 0 ? tall : limitBehind(limit, tall);
                int rest = leastOfRest(k + 1, nextLimit);
                if (rest != NONE && next + (rest << BITS_OF_PLACES) < best) {
                    placeFrom(k + 1, nextLimit, taken | 1 << i, next);
                }
            }
        }

        /** What those behind must bend if all had the lowest floor; NONE: one could not even then. */
        private int leastOfRest(int k, int limit) {
            int sum = 0;
            for (int j = k; j < guests && j < MOST_PERSONS; j++) {
                int p = order[j];
                int bend = Math.max(0, lowestFloor + scene.inches[p] - limit);
                if (bend > house.knees[p]) {
                    return NONE;
                }
                sum += bend;
            }
            return sum;
        }

        private int limitBehind(int limit, int tall) {
            return scene.law == LAW_OF_ALL_OLDER ? Math.min(limit, tall) : limit;
        }
    }

    /** The best deal of a set to rooms, looked for in the order in which of like ones the first counts. */
    private static final class FeastSearch {
        private final House house;
        private final PartySearch parties;
        private final int[] part = new int[MOST_ROOMS];
        private final int[] bestPart = new int[MOST_ROOMS];
        private boolean found;
        int leastBends;
        int mostFriends;

        FeastSearch(House house, PartySearch parties) {
            this.house = house;
            this.parties = parties;
        }

        boolean findDeal(int set) {
            found = false;
            for (int r = 0; r < MOST_ROOMS; r++) {
                part[r] = 0;
            }
            parties.findSums(set);
            dealFrom(0, set, 0);
            return found;
        }

        int roomFor(int p) {
            for (int r = 0; r < house.rooms; r++) {
                if ((bestPart[r] >> p & 1) != 0) {
                    return r;
                }
            }
            return NONE;
        }

        private void dealFrom(int p, int set, int friends) {
            if (p >= house.persons) {
                weigh(friends);
            } else if ((set >> p & 1) == 0) {
                dealFrom(p + 1, set, friends);
            } else {
                for (int r = 0; r < house.rooms; r++) {
                    int more = house.friendshipWithAll(p, part[r]);
                    part[r] |= 1 << p;
                    dealFrom(p + 1, set, friends + more);
                    part[r] &= ~(1 << p);
                }
            }
        }

        private void weigh(int friends) {
            int bends = 0;
            for (int r = 0; r < house.rooms; r++) {
                int sum = parties.sumOf(r, part[r]);
                if (sum == NONE) {
                    return;
                }
                bends += sum;
            }
            boolean better = bends < leastBends || (bends == leastBends && friends > mostFriends);
            if (!found || better) {
                found = true;
                leastBends = bends;
                mostFriends = friends;
                copyRow(part, bestPart);
            }
        }
    }

    /** A row of comings. */
    private static final class Book {
        final int[] person = new int[MOST_COMINGS];
        final int[] room = new int[MOST_COMINGS];
        final int[] place = new int[MOST_COMINGS];
        int count;

        void append(int p, int r, int i) {
            if (count < MOST_COMINGS) {
                person[count] = p;
                room[count] = r;
                place[count] = i;
                count++;
            }
        }
    }
}
