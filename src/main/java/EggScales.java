import java.util.Arrays;

/** Eggs that go over a row of scales, as ../shared/DOC.md tells; README.md says how to use it. */
public final class EggScales {
    public static final int BAD = -1, STATE = -2, FULL = -3, NONE = -9;
    public static final int NO = -1000000;

    private static final int MOST_SCALES = 5, MOST_EGGS = 6, MOST_LETTERS = 120;
    private static final int MOST_FALLS = 999, MOST_UNDONE = 10, MOST_TESTS = 6, IMAGES = 2;
    private static final int HEAVIEST = 99, MOST_STICKS = 9, MOST_ROOM = 9, HEAVIEST_BOX = 600;
    private static final int EGG = 0, BROWN = 1, DOUBLE = 2, CRACKED = 3, DUCK = 4, BANTAM = 5;
    private static final int NEST = 0, BASKET = 8, NOWHERE = 9;
    private static final int YOLK = 3, MOST_OFF = 9, TENTHS = 10;

    private final Reader reader = new Reader();
    private final Told told = new Told();
    private final Floor floor = new Floor(told);
    private final Floor trial = new Floor(told);
    private final Past past = new Past(told);
    private final Floor[] images = new Floor[IMAGES];
    private final boolean[] kept = new boolean[IMAGES];
    private final Search search = new Search(told);
    private final Packer packer = new Packer(floor);
    private final Tester tester = new Tester(told);
    private long traced;

    public EggScales() {
        for (int i = 0; i < IMAGES; i++) {
            images[i] = new Floor(told);
        }
    }

    // ---- the barn

    public int type(int letter) {
        if (beyond(letter, 0, 255)) {
            return BAD;
        }
        if (reader.length >= MOST_LETTERS) {
            return FULL;
        }
        reader.letters[reader.length] = (char) letter;
        reader.length++;
        return reader.length;
    }

    public int clear() {
        int had = reader.length;
        reader.length = 0;
        return had;
    }

    public int barn() {
        int items = reader.readItems();
        if (items < 0) {
            return items;
        }
        told.become(reader.draft);
        floor.begin();
        past.known = 0;
        tester.tests = 0;
        for (int i = 0; i < IMAGES; i++) {
            kept[i] = false;
        }
        reader.length = 0;
        return items;
    }

    public int scale(int s, int what) {
        if (noScale(s)) {
            return BAD;
        }
        switch (what) {
            case 0: return floor.mark[s];
            case 1: return told.sticks[s];
            case 2: return told.room[s];
            case 3: return floor.fallen[s];
            case 4: return floor.placeOf(s);
            case 5: return floor.eggsAt(s + 1);
            default: return BAD;
        }
    }

    public int egg(int e, int what) {
        if (noEgg(e)) {
            return BAD;
        }
        switch (what) {
            case 0: return floor.weight[e];
            case 1: return told.kind[e];
            case 2: return floor.where[e];
            case 3: return told.seems(e, floor.weight[e]);
            case 4: return floor.belongs(e);
            default: return BAD;
        }
    }

    public int now(int what) {
        switch (what) {
            case 0: return floor.eggsAt(NEST);
            case 1: return floor.eggsAt(BASKET);
            case 2: return floor.rightEggs();
            case 3: return floor.allFallen();
            case 4: return past.known;
            default: return BAD;
        }
    }

    // ---- what is done

    public int rolls(int e) {
        if (noEgg(e)) {
            return BAD;
        }
        if (floor.where[e] != NEST) {
            return STATE;
        }
        past.remember(floor);
        return floor.roll(e);
    }

    public int takes(int e) {
        if (noEgg(e)) {
            return BAD;
        }
        if (floor.where[e] == NEST || floor.where[e] == NOWHERE) {
            return STATE;
        }
        past.remember(floor);
        floor.where[e] = NEST;
        return floor.howManyAt(NEST);
    }

    public int wipes(int s) {
        if (noScale(s)) {
            return BAD;
        }
        int had = floor.fallen[s];
        if (had == 0) {
            return STATE;
        }
        past.remember(floor);
        floor.fallen[s] = 0;
        return had;
    }

    public int sets(int s, int mark) {
        if (noScale(s) || beyond(mark, 1, HEAVIEST)) {
            return BAD;
        }
        int had = floor.mark[s];
        if (had == mark) {
            return STATE;
        }
        past.remember(floor);
        floor.mark[s] = mark;
        return had;
    }

    public int shifts(int s) {
        if (noScale(s)) {
            return BAD;
        }
        int place = floor.placeOf(s);
        if (place >= told.scales - 1) {
            return STATE;
        }
        past.remember(floor);
        floor.row[place] = floor.row[place + 1];
        floor.row[place + 1] = s;
        return place + 1;
    }

    public int drops(int e) {
        if (noEgg(e)) {
            return BAD;
        }
        int was = floor.where[e];
        if (was == NOWHERE) {
            return STATE;
        }
        past.remember(floor);
        floor.where[e] = NOWHERE;
        return was;
    }

    public int undo() {
        if (past.known == 0) {
            return STATE;
        }
        past.recall(floor);
        return past.known;
    }

    // ---- where eggs go

    public int goes(int e) {
        if (noEgg(e)) {
            return BAD;
        }
        if (floor.where[e] != NEST) {
            return STATE;
        }
        trial.become(floor);
        return trial.roll(e);
    }

    public int order(int k) {
        if (beyond(k, -1, MOST_EGGS - 1)) {
            return BAD;
        }
        search.orderEggs(floor);
        if (k == -1) {
            return search.most;
        }
        return k < search.length ? search.found[k] : NONE;
    }

    public int row(int k) {
        if (beyond(k, -1, told.scales - 1)) {
            return BAD;
        }
        search.orderScales(floor);
        return k == -1 ? search.most : search.found[k];
    }

    public int reset(int e, int s) {
        if (noEgg(e) || noScale(s)) {
            return BAD;
        }
        if (floor.where[e] != NEST) {
            return STATE;
        }
        return floor.leastChange(e, s);
    }

    public int cracks(int x, int k, int what) {
        if (beyond(x, 0, TENTHS) || beyond(k, 0, MOST_EGGS) || beyond(what, 0, 1)) {
            return BAD;
        }
        int whole = floor.wholeInNest();
        int lower = power(TENTHS, whole);
        int upper = waysToCrack(x, k, whole);
        int common = greatestCommon(lower, upper);
        if (common == 0) {
            return BAD;
        }
        return (what == 0 ? upper : lower) / common;
    }

    // ---- boxes

    public int box(int n, int w, int what) {
        if (noBox(n, w) || beyond(what, 0, 1)) {
            return BAD;
        }
        int eggs = packer.lightestBox(n, w);
        if (eggs == NONE || what == 0) {
            return eggs;
        }
        return floor.gramsOf(eggs) - w;
    }

    public int boxes(int n, int w) {
        if (noBox(n, w)) {
            return BAD;
        }
        return packer.mostBoxes(n, w);
    }

    // ---- tests

    public int tested(int g, int s) {
        if (beyond(g, 1, HEAVIEST) || s != NONE && noScale(s)) {
            return BAD;
        }
        if (tester.tests >= MOST_TESTS) {
            return FULL;
        }
        tester.add(g, s);
        return tester.tests;
    }

    public int forget() {
        int had = tester.tests;
        tester.tests = 0;
        return had;
    }

    public int can(int what) {
        if (beyond(what, 0, 2)) {
            return BAD;
        }
        tester.findWays();
        if (what == 0) {
            return tester.ways;
        }
        return what == 1 ? tester.scalesOff() : tester.noneOff();
    }

    public int next() {
        tester.findWays();
        return tester.weightToTry();
    }

    // ---- kinds, images

    public int rate(int kind, int e) {
        if (noEgg(e)) {
            return NO;
        }
        switch (kind) {
            case EGG: return rateEgg(e);
            case BROWN: return rateBrown(e);
            case DOUBLE: return rateDouble(e);
            case CRACKED: return rateCracked(e);
            case DUCK: return rateDuck(e);
            case BANTAM: return rateBantam(e);
            default: return NO;
        }
    }

    public int keep(int image) {
        if (beyond(image, 0, IMAGES - 1)) {
            return BAD;
        }
        images[image].become(floor);
        kept[image] = true;
        return floor.howManyAt(NEST);
    }

    public int back(int image) {
        if (beyond(image, 0, IMAGES - 1)) {
            return BAD;
        }
        if (!kept[image]) {
            return STATE;
        }
        floor.become(images[image]);
        past.known = 0;
        return floor.howManyAt(NEST);
    }

    public int count(int what) {
        switch (what) {
            case 0: return told.scales;
            case 1: return told.eggs;
            case 2: return tester.tests;
            case 3: return reader.length;
            default: return BAD;
        }
    }

    public long trace() {
        return traced;
    }

    // ---- what the calls above lean on

    private static boolean beyond(int number, int least, int most) {
        return number < least || number > most;
    }

    private boolean noScale(int s) {
        return beyond(s, 0, told.scales - 1);
    }

    private boolean noEgg(int e) {
        return beyond(e, 0, told.eggs - 1);
    }

    private static boolean noBox(int n, int w) {
        return beyond(n, 1, MOST_EGGS) || beyond(w, 0, HEAVIEST_BOX);
    }

    private int rateEgg(int e) {
        traced += 1;
        return floor.weight[e];
    }

    private int rateBrown(int e) {
        traced += 10;
        return rateEgg(e) + floor.howManyAt(floor.where[e]);
    }

    private int rateDouble(int e) {
        traced += 100;
        return rateEgg(e) - told.scales;
    }

    private int rateCracked(int e) {
        traced += 1000;
        // asked once and doubled: a second asking would be traced too
        return 2 * rateBrown(e);
    }

    private int rateDuck(int e) {
        traced += 10000;
        return rateDouble(e) + e;
    }

    private int rateBantam(int e) {
        traced += 100000;
        return rateEgg(e) + floor.allFallen();
    }

    /** Of TENTHS to the power of eggs ways, those in which k eggs at most crack. */
    private static int waysToCrack(int x, int k, int eggs) {
        int sum = 0;
        int choices = 1;
        for (int i = 0; i <= eggs && i <= k; i++) {
            sum += choices * power(x, i) * power(TENTHS - x, eggs - i);
            choices = choices * (eggs - i) / (i + 1);
        }
        return sum;
    }

    private static int power(int base, int times) {
        int product = 1;
        for (int i = 0; i < times; i++) {
            product *= base;
        }
        return product;
    }

    private static int greatestCommon(int a, int b) {
        int greater = a;
        int rest = b;
        // Euclid's steps on ints stay far below 64
        for (int i = 0; i < 64 && rest != 0; i++) {
            int left = greater % rest;
            greater = rest;
            rest = left;
        }
        return greater;
    }

    /** What a text told: it stays so, whatever is done. */
    private static final class Told {
        int scales;
        int eggs;
        final int[] mark = new int[MOST_SCALES];
        final int[] sticks = new int[MOST_SCALES];
        final int[] room = new int[MOST_SCALES];
        final int[] weight = new int[MOST_EGGS];
        final int[] kind = new int[MOST_EGGS];

        void become(Told other) {
            scales = other.scales;
            eggs = other.eggs;
            System.arraycopy(other.mark, 0, mark, 0, MOST_SCALES);
            System.arraycopy(other.sticks, 0, sticks, 0, MOST_SCALES);
            System.arraycopy(other.room, 0, room, 0, MOST_SCALES);
            System.arraycopy(other.weight, 0, weight, 0, MOST_EGGS);
            System.arraycopy(other.kind, 0, kind, 0, MOST_EGGS);
        }

        int seems(int e, int grams) {
            switch (kind[e]) {
                case DOUBLE:
                case DUCK: return grams + YOLK;
                case BANTAM: return grams / 2;
                default: return grams;
            }
        }

        int leaked(int e, int grams) {
            return kind[e] == CRACKED ? Math.max(1, grams - 1) : grams;
        }
    }

    /** Holds THE TEXT, and reads it into a draft, so that a fault leaves what was told. */
    private static final class Reader {
        private static final int END = 0, WRONG = 1, NUMBER = 2;

        final char[] letters = new char[MOST_LETTERS];
        int length;
        final Told draft = new Told();
        private int place;
        private int start;
        /** END, WRONG, NUMBER or the token's own letter. */
        private int token;
        private int number;

        /** How many items there are, or -10 less the fault's place. */
        int readItems() {
            draft.scales = 0;
            draft.eggs = 0;
            place = 0;
            int items = 0;
            readToken();
            while (items < MOST_LETTERS && token != END) {
                if (!readItem()) {
                    return -10 - start;
                }
                items++;
                readToken();
            }
            return items;
        }

        private boolean readItem() {
            if (token == 's' && draft.scales < MOST_SCALES) {
                return readScale(draft.scales) && readEnd();
            }
            if (token == 'e' && draft.eggs < MOST_EGGS) {
                return readEgg(draft.eggs) && readEnd();
            }
            return false;
        }

        private boolean readScale(int s) {
            if (!readNumber(1, HEAVIEST)) {
                return false;
            }
            draft.mark[s] = number;
            if (!readNumber(0, MOST_STICKS)) {
                return false;
            }
            draft.sticks[s] = number;
            if (!readNumber(1, MOST_ROOM)) {
                return false;
            }
            draft.room[s] = number;
            draft.scales++;
            return true;
        }

        private boolean readEgg(int e) {
            if (!readNumber(1, HEAVIEST)) {
                return false;
            }
            draft.weight[e] = number;
            if (!readNumber(EGG, BANTAM)) {
                return false;
            }
            draft.kind[e] = number;
            draft.eggs++;
            return true;
        }

        private boolean readNumber(int least, int most) {
            readToken();
            return token == NUMBER && !beyond(number, least, most);
        }

        private boolean readEnd() {
            readToken();
            return token == ';';
        }

        private void readToken() {
            while (place < length && letters[place] == ' ') {
                place++;
            }
            start = place;
            if (place >= length) {
                token = END;
            } else if (digitAt(place)) {
                readDigits();
            } else {
                char letter = letters[place];
                token = letter == 's' || letter == 'e' || letter == ';' ? letter : WRONG;
                place++;
            }
        }

        private void readDigits() {
            number = 0;
            while (place < length && digitAt(place)) {
                // held down: a long row of digits would run over
                number = Math.min(HEAVIEST + 1, number * 10 + letters[place] - '0');
                place++;
            }
            boolean zeroAhead = letters[start] == '0' && place > start + 1;
            token = zeroAhead || number > HEAVIEST ? WRONG : NUMBER;
        }

        private boolean digitAt(int at) {
            return letters[at] >= '0' && letters[at] <= '9';
        }
    }

    /** All that changes as eggs roll: what an image keeps and undo() brings back. */
    private static final class Floor {
        private final Told told;
        final int[] where = new int[MOST_EGGS];
        final int[] weight = new int[MOST_EGGS];
        final int[] mark = new int[MOST_SCALES];
        final int[] row = new int[MOST_SCALES];
        final int[] fallen = new int[MOST_SCALES];

        Floor(Told told) {
            this.told = told;
        }

        void begin() {
            Arrays.fill(where, NEST);
            Arrays.fill(fallen, 0);
            System.arraycopy(told.weight, 0, weight, 0, MOST_EGGS);
            System.arraycopy(told.mark, 0, mark, 0, MOST_SCALES);
            for (int s = 0; s < MOST_SCALES; s++) {
                row[s] = s;
            }
        }

        void become(Floor other) {
            System.arraycopy(other.where, 0, where, 0, MOST_EGGS);
            System.arraycopy(other.weight, 0, weight, 0, MOST_EGGS);
            System.arraycopy(other.mark, 0, mark, 0, MOST_SCALES);
            System.arraycopy(other.row, 0, row, 0, MOST_SCALES);
            System.arraycopy(other.fallen, 0, fallen, 0, MOST_SCALES);
        }

        int roll(int e) {
            for (int place = 0; place < told.scales; place++) {
                int s = row[place];
                if (mark[s] <= highestMark(e, s) && !isFull(s)) {
                    where[e] = s + 1;
                    fallen[s] = Math.min(MOST_FALLS, fallen[s] + 1);
                    return s;
                }
                weight[e] = told.leaked(e, weight[e]);
            }
            where[e] = BASKET;
            return NONE;
        }

        private int highestMark(int e, int s) {
            return told.seems(e, weight[e]) - stiffness(s);
        }

        private int stiffness(int s) {
            return told.sticks[s] == 0 ? 0 : fallen[s] / told.sticks[s];
        }

        private boolean isFull(int s) {
            return Integer.bitCount(eggsAt(s + 1)) >= told.room[s];
        }

        /** Each scale's change can be told by itself: what an egg leaks does not hang on marks. */
        int leastChange(int e, int goal) {
            int grams = weight[e];
            int change = 0;
            for (int place = 0; place < told.scales; place++) {
                int s = row[place];
                int highest = told.seems(e, grams) - stiffness(s);
                boolean full = isFull(s);
                if (s == goal) {
                    return full || highest < 1 ? NONE : change + Math.max(0, mark[s] - highest);
                }
                if (!full && highest >= HEAVIEST) {
                    return NONE;
                }
                change += full ? 0 : Math.max(0, highest + 1 - mark[s]);
                grams = told.leaked(e, grams);
            }
            return NONE;
        }

        int placeOf(int s) {
            int place = 0;
            while (place < MOST_SCALES - 1 && row[place] != s) {
                place++;
            }
            return place;
        }

        int belongs(int e) {
            for (int place = 0; place < told.scales; place++) {
                int s = row[place];
                if (mark[s] <= weight[e]) {
                    return s;
                }
            }
            return NONE;
        }

        /** Of the nest or nowhere, it is never right: no egg belongs there. */
        boolean isRight(int e) {
            int s = belongs(e);
            return where[e] == (s == NONE ? BASKET : s + 1);
        }

        int rightEggs() {
            int bits = 0;
            for (int e = 0; e < told.eggs; e++) {
                if (isRight(e)) {
                    bits |= 1 << e;
                }
            }
            return bits;
        }

        int eggsAt(int spot) {
            int bits = 0;
            for (int e = 0; e < told.eggs; e++) {
                if (where[e] == spot) {
                    bits |= 1 << e;
                }
            }
            return bits;
        }

        int howManyAt(int spot) {
            return Integer.bitCount(eggsAt(spot));
        }

        int eggsInTrays() {
            int bits = 0;
            for (int s = 0; s < told.scales; s++) {
                bits |= eggsAt(s + 1);
            }
            return bits;
        }

        int wholeInNest() {
            int whole = 0;
            for (int e = 0; e < told.eggs; e++) {
                if (where[e] == NEST && told.kind[e] != CRACKED) {
                    whole++;
                }
            }
            return whole;
        }

        int gramsOf(int bits) {
            int grams = 0;
            for (int e = 0; e < told.eggs; e++) {
                if ((bits >> e & 1) == 1) {
                    grams += weight[e];
                }
            }
            return grams;
        }

        int allFallen() {
            int sum = 0;
            for (int s = 0; s < told.scales; s++) {
                sum += fallen[s];
            }
            return sum;
        }
    }

    /** A ring of floors, so that the oldest is lost when one more comes. */
    private static final class Past {
        private final Floor[] floors = new Floor[MOST_UNDONE];
        private int latest;
        int known;

        Past(Told told) {
            for (int i = 0; i < MOST_UNDONE; i++) {
                floors[i] = new Floor(told);
            }
        }

        void remember(Floor floor) {
            latest = (latest + 1) % MOST_UNDONE;
            floors[latest].become(floor);
            known = Math.min(MOST_UNDONE, known + 1);
        }

        void recall(Floor floor) {
            floor.become(floors[latest]);
            latest = (latest + MOST_UNDONE - 1) % MOST_UNDONE;
            known--;
        }
    }

    /** Tries orders of eggs, of scales, the lowest first, and keeps the first of the best. */
    private static final class Search {
        private final Told told;
        /** One floor for each egg that has been rolled, so that the one before needs no undoing. */
        private final Floor[] floors = new Floor[MOST_EGGS + 1];
        private final int[] tried = new int[MOST_EGGS];
        final int[] found = new int[MOST_EGGS];
        int length;
        int most;

        Search(Told told) {
            this.told = told;
            for (int i = 0; i <= MOST_EGGS; i++) {
                floors[i] = new Floor(told);
            }
        }

        void orderEggs(Floor floor) {
            floors[0].become(floor);
            length = floor.howManyAt(NEST);
            most = -1;
            rollOneMore(0, Integer.bitCount(floor.rightEggs()));
        }

        private void rollOneMore(int depth, int right) {
            // no better than the one that came first, even if all that follow were right
            if (right + length - depth <= most) {
                return;
            }
            if (depth >= length) {
                keepTried(right);
            } else {
                rollEach(depth, right);
            }
        }

        private void rollEach(int depth, int right) {
            Floor before = floors[depth];
            Floor after = floors[depth + 1];
            for (int e = 0; e < told.eggs; e++) {
                if (before.where[e] == NEST) {
                    after.become(before);
                    after.roll(e);
                    tried[depth] = e;
                    rollOneMore(depth + 1, after.isRight(e) ? right + 1 : right);
                }
            }
        }

        void orderScales(Floor floor) {
            floors[0].become(floor);
            length = told.scales;
            most = -1;
            placeOneMore(0, 0);
        }

        private void placeOneMore(int depth, int placed) {
            if (depth >= length) {
                tryRow();
            } else {
                placeEach(depth, placed);
            }
        }

        private void placeEach(int depth, int placed) {
            for (int s = 0; s < told.scales; s++) {
                if ((placed >> s & 1) == 0) {
                    tried[depth] = s;
                    placeOneMore(depth + 1, placed | 1 << s);
                }
            }
        }

        private void tryRow() {
            Floor floor = floors[1];
            floor.become(floors[0]);
            System.arraycopy(tried, 0, floor.row, 0, length);
            for (int e = 0; e < told.eggs; e++) {
                if (floor.where[e] == NEST) {
                    floor.roll(e);
                }
            }
            int right = Integer.bitCount(floor.rightEggs());
            if (right > most) {
                keepTried(right);
            }
        }

        private void keepTried(int right) {
            most = right;
            System.arraycopy(tried, 0, found, 0, length);
        }
    }

    /** Packs eggs of the trays into boxes. */
    private static final class Packer {
        private static final int SETS = 1 << MOST_EGGS;

        private final Floor floor;
        private final int[] most = new int[SETS];

        Packer(Floor floor) {
            this.floor = floor;
        }

        int lightestBox(int n, int w) {
            int trays = floor.eggsInTrays();
            int lightest = NONE;
            int least = 0;
            for (int bits = 1; bits < SETS; bits++) {
                if (isBox(bits, trays, n, w)) {
                    int grams = floor.gramsOf(bits);
                    if (lightest == NONE || grams < least) {
                        lightest = bits;
                        least = grams;
                    }
                }
            }
            return lightest;
        }

        private boolean isBox(int bits, int among, int n, int w) {
            return (bits & ~among) == 0 && Integer.bitCount(bits) == n && floor.gramsOf(bits) >= w;
        }

        /** Smaller sets of eggs come first, so that what a box leaves has been answered. */
        int mostBoxes(int n, int w) {
            int trays = floor.eggsInTrays();
            for (int among = 0; among <= trays; among++) {
                most[among] = 0;
                for (int bits = 1; bits <= among; bits++) {
                    if (isBox(bits, among, n, w)) {
                        most[among] = Math.max(most[among], most[among & ~bits] + 1);
                    }
                }
            }
            return most[trays];
        }
    }

    /** Finds which one scale is off, by marks as told, whatever has been done since. */
    private static final class Tester {
        private static final int MOST_WAYS = 1 + MOST_SCALES * 2 * MOST_OFF;

        private final Told told;
        private final int[] testGrams = new int[MOST_TESTS];
        private final int[] testScale = new int[MOST_TESTS];
        int tests;
        private final int[] wayScale = new int[MOST_WAYS];
        private final int[] wayOff = new int[MOST_WAYS];
        int ways;
        private final int[] parts = new int[MOST_SCALES + 1];

        Tester(Told told) {
            this.told = told;
        }

        void add(int g, int s) {
            testGrams[tests] = g;
            testScale[tests] = s;
            tests++;
        }

        void findWays() {
            ways = 0;
            addIfSo(NONE, 0);
            for (int s = 0; s < told.scales; s++) {
                for (int off = -MOST_OFF; off <= MOST_OFF; off++) {
                    if (off != 0) {
                        addIfSo(s, off);
                    }
                }
            }
        }

        private void addIfSo(int s, int off) {
            for (int i = 0; i < tests; i++) {
                if (fallsFrom(testGrams[i], s, off) != testScale[i]) {
                    return;
                }
            }
            wayScale[ways] = s;
            wayOff[ways] = off;
            ways++;
        }

        private int fallsFrom(int g, int scaleOff, int off) {
            for (int s = 0; s < told.scales; s++) {
                int tips = s == scaleOff ? told.mark[s] + off : told.mark[s];
                if (g >= tips) {
                    return s;
                }
            }
            return NONE;
        }

        int scalesOff() {
            int bits = 0;
            for (int i = 0; i < ways; i++) {
                if (wayScale[i] != NONE) {
                    bits |= 1 << wayScale[i];
                }
            }
            return bits;
        }

        int noneOff() {
            return ways > 0 && wayScale[0] == NONE ? 1 : 0;
        }

        int weightToTry() {
            int lightest = NONE;
            int least = ways;
            for (int g = 1; g <= HEAVIEST && ways > 1; g++) {
                int part = greatestPart(g);
                if (lightest == NONE || part < least) {
                    lightest = g;
                    least = part;
                }
            }
            return lightest;
        }

        private int greatestPart(int g) {
            Arrays.fill(parts, 0);
            int greatest = 0;
            for (int i = 0; i < ways; i++) {
                int s = fallsFrom(g, wayScale[i], wayOff[i]);
                int part = s == NONE ? MOST_SCALES : s;
                parts[part]++;
                greatest = Math.max(greatest, parts[part]);
            }
            return greatest;
        }
    }
}
