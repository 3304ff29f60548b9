import java.util.Arrays;

/** Maps of five points that may leave points out, words of them, and the networks that words make. */
public final class HalfMaps {
    public static final int UNKNOWN = -1, OUTSIDE = -2, STATE = -3, FULL = -4, NONE = -6, FAULT = -7;

    private static final int POINTS = 5;
    private static final int NUMBERS = 7776;
    private static final int IDENTITY = 7465;
    private static final int[] POWER = {1, 6, 36, 216, 1296};
    private static final int SLOTS = 6;
    private static final int WORDS = 4;
    private static final int RULES = 2;
    private static final int IMAGES = 2;
    private static final int MOST_SIGNS = 12;
    // Letters are 0 x, 1 X, 2 y, 3 Y, 4 z, 5 Z, so that letter ^ 1 undoes a letter.
    private static final int LETTERS = 6;
    private static final int NOWHERE = -1;

    private final State now = new State();
    private final State[] images = new State[IMAGES];
    private final boolean[] kept = new boolean[IMAGES];
    private final int[] pad = new int[MOST_SIGNS];
    private int signs = 0;
    private final Made products = new Made();
    private final Tree walk = new Tree();
    private final Net network = new Net();

    public HalfMaps() {
        for (int k = 0; k < IMAGES; k++) {
            images[k] = new State();
        }
    }

    // ---- 1 maps, words

    public int set(int slot, int number) {
        if (!isSlot(slot)) {
            return UNKNOWN;
        }
        if (!Maps.isMap(number)) {
            return OUTSIDE;
        }
        int held = now.slots[slot];
        now.slots[slot] = number;
        return held;
    }

    public int of(int slot, int what) {
        if (!isSlot(slot)) {
            return UNKNOWN;
        }
        int map = now.slots[slot];
        switch (what) {
            case 0:
                return map;
            case 1:
                return Maps.rank(map);
            case 2:
                return oneIf(Maps.isIdempotent(map));
            case 3:
                return Maps.idempotentPower(map);
            default:
                return OUTSIDE;
        }
    }

    public int leads(int slot, int point) {
        if (!isSlot(slot) || point < 0 || point >= POINTS) {
            return UNKNOWN;
        }
        int digit = Maps.digit(now.slots[slot], point);
        return digit == 0 ? NONE : digit - 1;
    }

    public int both(int to, int one, int other, int way) {
        if (!isSlot(to) || !isSlot(one) || !isSlot(other)) {
            return UNKNOWN;
        }
        int a = now.slots[one];
        int b = now.slots[other];
        switch (way) {
            case 0:
                return hold(to, Maps.then(a, b));
            case 1:
                return hold(to, Maps.meet(a, b));
            case 2:
                int joined = Maps.join(a, b);
                return joined < 0 ? STATE : hold(to, joined);
            default:
                return OUTSIDE;
        }
    }

    public int turn(int to, int from, int way) {
        if (!isSlot(to) || !isSlot(from)) {
            return UNKNOWN;
        }
        int map = now.slots[from];
        switch (way) {
            case 0:
                return hold(to, Maps.inverse(map));
            case 1:
                return hold(to, Maps.dom(map));
            case 2:
                return hold(to, Maps.dom(Maps.inverse(map)));
            default:
                return OUTSIDE;
        }
    }

    public int below(int one, int other) {
        if (!isSlot(one) || !isSlot(other)) {
            return UNKNOWN;
        }
        int map = now.slots[one];
        return oneIf(Maps.meet(map, now.slots[other]) == map);
    }

    public int say(int sign) {
        if (sign < 33 || sign > 126) {
            return OUTSIDE;
        }
        if (signs >= MOST_SIGNS) {
            return FULL;
        }
        pad[signs] = sign;
        signs++;
        return signs;
    }

    public int wipe() {
        int had = signs;
        signs = 0;
        return had;
    }

    public int word(int word) {
        if (!isWord(word)) {
            return UNKNOWN;
        }
        for (int i = 0; i < signs; i++) {
            if (letterOf(pad[i]) < 0) {
                return FAULT;
            }
        }
        Word written = now.words[word];
        for (int i = 0; i < signs; i++) {
            written.letters[i] = letterOf(pad[i]);
        }
        written.length = signs;
        signs = 0;
        return written.length;
    }

    public int value(int to, int word) {
        if (!isSlot(to) || !isWord(word)) {
            return UNKNOWN;
        }
        Word read = now.words[word];
        int map = IDENTITY;
        for (int i = 0; i < read.length; i++) {
            map = Maps.then(map, Maps.ofLetter(read.letters[i], now.slots));
        }
        return hold(to, map);
    }

    // ---- 2 what is made

    public int made(int n, int what) {
        if (n < 1 || n > 3 || what < 0 || what > 5) {
            return OUTSIDE;
        }
        products.prepare(n, now.slots);
        switch (what) {
            case 0:
                return products.size;
            case 1:
                return products.idempotents();
            case 2:
                return products.kinds();
            case 3:
                return products.greatestGroup();
            case 4:
                return oneIf(products.isClean());
            default:
                return products.imageGroup();
        }
    }

    public int way(int n, int slot, int i) {
        if (n < 1 || n > 3) {
            return OUTSIDE;
        }
        if (!isSlot(slot)) {
            return UNKNOWN;
        }
        products.prepare(n, now.slots);
        int at = products.rowOf(now.slots[slot]);
        if (at < 0) {
            return NONE;
        }
        int length = products.lengths[at];
        if (i == -1) {
            return length;
        }
        if (i < 0 || i >= length) {
            return NONE;
        }
        return products.letterAt(at, i);
    }

    // ---- 3 trees

    public int tree(int word, int what) {
        if (!isWord(word)) {
            return UNKNOWN;
        }
        if (what < 0 || what > 3) {
            return OUTSIDE;
        }
        walk.grow(now.words[word]);
        switch (what) {
            case 0:
                return walk.places;
            case 1:
                return walk.depths[walk.end];
            case 2:
                return walk.farthest();
            default:
                return walk.leaves();
        }
    }

    public int compare(int one, int other) {
        if (!isWord(one) || !isWord(other)) {
            return UNKNOWN;
        }
        boolean firstUnder = isUnder(now.words[one], now.words[other]);
        boolean secondUnder = isUnder(now.words[other], now.words[one]);
        if (firstUnder && secondUnder) {
            return 1;
        }
        if (firstUnder) {
            return 2;
        }
        return secondUnder ? 3 : 0;
    }

    // ---- 4 nets

    public int rule(int rule, int is, int one, int other) {
        if (rule < 0 || rule >= RULES || is < 0 || is > 1) {
            return OUTSIDE;
        }
        if (is == 1) {
            if (!isWord(one) || !isWord(other)) {
                return UNKNOWN;
            }
            now.rules[rule].tell(now.words[one], now.words[other]);
        } else {
            now.rules[rule].told = false;
        }
        return rulesTold();
    }

    public int net(int word, int what) {
        if (!isWord(word)) {
            return UNKNOWN;
        }
        if (what < 0 || what > 2) {
            return OUTSIDE;
        }
        if (!network.makeReady(now.words[word], now.rules)) {
            return NONE;
        }
        switch (what) {
            case 0:
                return network.places;
            case 1:
                return network.joints();
            default:
                return network.rounds;
        }
    }

    public int reads(int word, int other) {
        if (!isWord(word) || !isWord(other)) {
            return UNKNOWN;
        }
        if (!network.makeReady(now.words[word], now.rules)) {
            return NONE;
        }
        return oneIf(network.accepts(now.words[other]));
    }

    // ---- 5 images

    public int image(int k) {
        if (k < 0 || k >= IMAGES) {
            return OUTSIDE;
        }
        images[k].copyFrom(now);
        kept[k] = true;
        return 1;
    }

    public int restore(int k) {
        if (k < 0 || k >= IMAGES) {
            return OUTSIDE;
        }
        if (!kept[k]) {
            return STATE;
        }
        now.copyFrom(images[k]);
        return 1;
    }

    public int count(int what) {
        switch (what) {
            case 0:
                return differentMaps();
            case 1:
                return ranksAdded();
            case 2:
            case 3:
            case 4:
            case 5:
                return now.words[what - 2].length;
            case 6:
                return signs;
            case 7:
                return rulesTold();
            case 8:
                return (kept[0] ? 1 : 0) + (kept[1] ? 2 : 0);
            default:
                return OUTSIDE;
        }
    }

    private static boolean isSlot(int slot) {
        return slot >= 0 && slot < SLOTS;
    }

    private static boolean isWord(int word) {
        return word >= 0 && word < WORDS;
    }

    private static int oneIf(boolean holds) {
        return holds ? 1 : 0;
    }

    private static int letterOf(int sign) {
        switch (sign) {
            case 'x':
                return 0;
            case 'X':
                return 1;
            case 'y':
                return 2;
            case 'Y':
                return 3;
            case 'z':
                return 4;
            case 'Z':
                return 5;
            default:
                return -1;
        }
    }

    private int hold(int slot, int map) {
        now.slots[slot] = map;
        return Maps.rank(map);
    }

    /** A TREE is connected, so it has all places of a WORD just when that WORD can be walked inside it. */
    private boolean isUnder(Word lower, Word upper) {
        walk.grow(lower);
        return walk.accepts(upper);
    }

    private int rulesTold() {
        int told = 0;
        for (int r = 0; r < RULES; r++) {
            if (now.rules[r].told) {
                told++;
            }
        }
        return told;
    }

    private int differentMaps() {
        int different = 0;
        for (int s = 0; s < SLOTS; s++) {
            boolean isNew = true;
            for (int earlier = 0; earlier < s; earlier++) {
                if (now.slots[earlier] == now.slots[s]) {
                    isNew = false;
                }
            }
            if (isNew) {
                different++;
            }
        }
        return different;
    }

    private int ranksAdded() {
        int sum = 0;
        for (int s = 0; s < SLOTS; s++) {
            sum += Maps.rank(now.slots[s]);
        }
        return sum;
    }

    /** Functions over MAPS, each of which is held as its NUMBER. */
    private static final class Maps {
        private Maps() {
        }

        /** 0, if the point is led nowhere, else the point to which it is led, and 1. */
        static int digit(int map, int point) {
            return map / POWER[point] % 6;
        }

        static boolean isMap(int number) {
            return number >= 0 && number < NUMBERS && isInjective(number);
        }

        static boolean isInjective(int number) {
            int reached = 0;
            for (int p = 0; p < POINTS; p++) {
                int digit = digit(number, p);
                if (digit > 0 && (reached >> digit & 1) == 1) {
                    return false;
                }
                reached |= 1 << digit;
            }
            return true;
        }

        static int rank(int map) {
            return Integer.bitCount(domPoints(map));
        }

        static boolean isIdempotent(int map) {
            return fixedPoints(map) == domPoints(map);
        }

        static int idempotentPower(int map) {
            int power = map;
            int times = 1;
            // Five points need at most 6 times (cycles of 2 and 3); the bound is far above that.
            while (times < 1000 && !isIdempotent(power)) {
                power = then(power, map);
                times++;
            }
            return times;
        }

        static int then(int first, int second) {
            int map = 0;
            for (int p = 0; p < POINTS; p++) {
                int digit = digit(first, p);
                if (digit > 0) {
                    map += digit(second, digit - 1) * POWER[p];
                }
            }
            return map;
        }

        static int inverse(int map) {
            int turned = 0;
            for (int p = 0; p < POINTS; p++) {
                int digit = digit(map, p);
                if (digit > 0) {
                    turned += (p + 1) * POWER[digit - 1];
                }
            }
            return turned;
        }

        static int meet(int one, int other) {
            int map = 0;
            for (int p = 0; p < POINTS; p++) {
                int digit = digit(one, p);
                if (digit == digit(other, p)) {
                    map += digit * POWER[p];
                }
            }
            return map;
        }

        /** The JOIN, or -1 where there is none. */
        static int join(int one, int other) {
            int map = 0;
            for (int p = 0; p < POINTS; p++) {
                int a = digit(one, p);
                int b = digit(other, p);
                if (a > 0 && b > 0 && a != b) {
                    return -1;
                }
                map += Math.max(a, b) * POWER[p];
            }
            return isInjective(map) ? map : -1;
        }

        static int dom(int map) {
            int idempotent = 0;
            for (int p = 0; p < POINTS; p++) {
                if (digit(map, p) > 0) {
                    idempotent += (p + 1) * POWER[p];
                }
            }
            return idempotent;
        }

        /** The points that the map leads, a bit for each. */
        static int domPoints(int map) {
            int points = 0;
            for (int p = 0; p < POINTS; p++) {
                if (digit(map, p) > 0) {
                    points |= 1 << p;
                }
            }
            return points;
        }

        /** The points to which the map leads, a bit for each. */
        static int ranPoints(int map) {
            int points = 0;
            for (int p = 0; p < POINTS; p++) {
                int digit = digit(map, p);
                if (digit > 0) {
                    points |= 1 << (digit - 1);
                }
            }
            return points;
        }

        /** The points that the map leads to themselves, a bit for each. */
        static int fixedPoints(int map) {
            int points = 0;
            for (int p = 0; p < POINTS; p++) {
                if (digit(map, p) == p + 1) {
                    points |= 1 << p;
                }
            }
            return points;
        }

        static int ofLetter(int letter, int[] slots) {
            int map = slots[letter >> 1];
            return (letter & 1) == 0 ? map : inverse(map);
        }
    }

    /** A row of letters. */
    private static final class Word {
        final int[] letters = new int[MOST_SIGNS];
        int length = 0;

        void copyFrom(Word other) {
            System.arraycopy(other.letters, 0, letters, 0, MOST_SIGNS);
            length = other.length;
        }

        /** Where this word comes to from a place, by links of six letters for each place; or NOWHERE. */
        int follow(int[] links, int place) {
            int at = place;
            for (int i = 0; i < length && at >= 0; i++) {
                at = links[at * LETTERS + letters[i]];
            }
            return at;
        }
    }

    /** Two words that are said to be the same, as they were when that was told. */
    private static final class Rule {
        boolean told = false;
        final Word one = new Word();
        final Word other = new Word();

        void tell(Word first, Word second) {
            told = true;
            one.copyFrom(first);
            other.copyFrom(second);
        }

        void copyFrom(Rule from) {
            told = from.told;
            one.copyFrom(from.one);
            other.copyFrom(from.other);
        }
    }

    /** All that an IMAGE keeps. */
    private static final class State {
        final int[] slots = new int[SLOTS];
        final Word[] words = new Word[WORDS];
        final Rule[] rules = new Rule[RULES];

        State() {
            Arrays.fill(slots, IDENTITY);
            for (int w = 0; w < WORDS; w++) {
                words[w] = new Word();
            }
            for (int r = 0; r < RULES; r++) {
                rules[r] = new Rule();
            }
        }

        void copyFrom(State other) {
            System.arraycopy(other.slots, 0, slots, 0, SLOTS);
            for (int w = 0; w < WORDS; w++) {
                words[w].copyFrom(other.words[w]);
            }
            for (int r = 0; r < RULES; r++) {
                rules[r].copyFrom(other.rules[r]);
            }
        }
    }

    /** All MAPS that are MADE of some letters, in the order of their WAYS. */
    private static final class Made {
        // So many maps there are of five points.
        private static final int MOST = 1546;
        private static final int SUBSETS = 32;

        private final int[] letterMaps = new int[LETTERS];
        private int letterCount = 0;
        // For each NUMBER its index in the rows and 1, or 0.
        private final int[] places = new int[NUMBERS];
        private final int[] maps = new int[MOST];
        private final int[] from = new int[MOST];
        private final int[] lastLetters = new int[MOST];
        final int[] lengths = new int[MOST];
        int size = 0;
        // How many maps have a set of points as DOM and as RAN. As each map may be
        // followed by its inverse, its DOM is MADE: so a set has a group just when
        // its idempotent is MADE.
        private final int[] groups = new int[SUBSETS];
        private final int[] kindOf = new int[SUBSETS];

        /** Finds what is MADE of n letters, unless it is what was found last. */
        void prepare(int n, int[] slots) {
            boolean same = letterCount == 2 * n;
            letterCount = 2 * n;
            for (int letter = 0; letter < letterCount; letter++) {
                int map = Maps.ofLetter(letter, slots);
                same = same && letterMaps[letter] == map;
                letterMaps[letter] = map;
            }
            if (!same) {
                forget();
                find();
                survey();
            }
        }

        private void forget() {
            for (int i = 0; i < size; i++) {
                places[maps[i]] = 0;
            }
            size = 0;
        }

        /** Rows grow at their end and letters come in order, so what is found first is the WAY. */
        private void find() {
            for (int letter = 0; letter < letterCount; letter++) {
                add(letterMaps[letter], NOWHERE, letter);
            }
            for (int i = 0; i < size && i < MOST; i++) {
                for (int letter = 0; letter < letterCount; letter++) {
                    add(Maps.then(maps[i], letterMaps[letter]), i, letter);
                }
            }
        }

        private void add(int map, int before, int letter) {
            if (places[map] != 0 || size >= MOST) {
                return;
            }
            maps[size] = map;
            from[size] = before;
            lastLetters[size] = letter;
            lengths[size] = before < 0 ? 1 : lengths[before] + 1;
            size++;
            places[map] = size;
        }

        private void survey() {
            for (int set = 0; set < SUBSETS; set++) {
                groups[set] = 0;
                kindOf[set] = set;
            }
            for (int i = 0; i < size; i++) {
                int dom = Maps.domPoints(maps[i]);
                int ran = Maps.ranPoints(maps[i]);
                if (dom == ran) {
                    groups[dom]++;
                } else {
                    makeOneKind(kindOf[dom], kindOf[ran]);
                }
            }
        }

        private void makeOneKind(int kind, int other) {
            for (int set = 0; set < SUBSETS; set++) {
                if (kindOf[set] == other) {
                    kindOf[set] = kind;
                }
            }
        }

        int rowOf(int map) {
            return places[map] - 1;
        }

        int letterAt(int row, int i) {
            int at = row;
            for (int steps = lengths[row] - 1 - i; steps > 0 && from[at] >= 0; steps--) {
                at = from[at];
            }
            return lastLetters[at];
        }

        int idempotents() {
            int found = 0;
            for (int set = 0; set < SUBSETS; set++) {
                if (groups[set] > 0) {
                    found++;
                }
            }
            return found;
        }

        int kinds() {
            int found = 0;
            for (int set = 0; set < SUBSETS; set++) {
                if (groups[set] > 0 && kindOf[set] == set) {
                    found++;
                }
            }
            return found;
        }

        int greatestGroup() {
            int greatest = 0;
            for (int set = 0; set < SUBSETS; set++) {
                greatest = Math.max(greatest, groups[set]);
            }
            return greatest;
        }

        boolean isClean() {
            for (int i = 0; i < size; i++) {
                if (!Maps.isIdempotent(maps[i]) && hasIdempotentWithin(Maps.fixedPoints(maps[i]))) {
                    return false;
                }
            }
            return true;
        }

        private boolean hasIdempotentWithin(int points) {
            for (int set = 0; set < SUBSETS; set++) {
                if (groups[set] > 0 && (set & ~points) == 0) {
                    return true;
                }
            }
            return false;
        }

        /**
         * CORE is MADE and lies within each DOM and RAN, so FIRST CORE THEN a map is
         * one of the maps that have CORE as DOM and as RAN, and each of these comes so.
         */
        int imageGroup() {
            int core = SUBSETS - 1;
            for (int set = 0; set < SUBSETS; set++) {
                if (groups[set] > 0) {
                    core &= set;
                }
            }
            return groups[core];
        }
    }

    /** The TREE of a WORD; place 0 is ROOT. */
    private static final class Tree {
        private static final int MOST = MOST_SIGNS + 1;

        private final int[] links = new int[MOST * LETTERS];
        final int[] depths = new int[MOST];
        int places = 0;
        int end = 0;

        void grow(Word word) {
            Arrays.fill(links, NOWHERE);
            places = 1;
            depths[0] = 0;
            int at = 0;
            for (int i = 0; i < word.length; i++) {
                int letter = word.letters[i];
                if (links[at * LETTERS + letter] < 0) {
                    sprout(at, letter);
                }
                at = links[at * LETTERS + letter];
            }
            end = at;
        }

        private void sprout(int at, int letter) {
            depths[places] = depths[at] + 1;
            links[at * LETTERS + letter] = places;
            links[places * LETTERS + (letter ^ 1)] = at;
            places++;
        }

        /** Whether a word walks from ROOT to END inside this tree. */
        boolean accepts(Word word) {
            return word.follow(links, 0) == end;
        }

        int farthest() {
            int depth = 0;
            for (int p = 0; p < places; p++) {
                depth = Math.max(depth, depths[p]);
            }
            return depth;
        }

        int leaves() {
            int found = 0;
            for (int p = 0; p < places; p++) {
                int neighbours = 0;
                for (int letter = 0; letter < LETTERS; letter++) {
                    if (links[p * LETTERS + letter] >= 0) {
                        neighbours++;
                    }
                }
                if (neighbours == 1) {
                    found++;
                }
            }
            return found;
        }
    }

    /**
     * The NET of a WORD. Places that clash begin to become one as soon as a joint is
     * sewn: the order does not matter, so this is as if all were sewn and then FOLDED.
     */
    private static final class Net {
        private static final int MOST_PLACES = 24;
        private static final int MOST_ROUNDS = 20;
        // Each RULE may be sewn both ways round at each place.
        private static final int SEAMS = 2 * RULES;
        private static final int ROOM = MOST_PLACES + MOST_PLACES * SEAMS * (MOST_SIGNS - 1);

        // Joints, seen from both ends: a place's link by a letter and the link back by its inverse.
        private final int[] links = new int[ROOM * LETTERS];
        // The place that a place has become; itself, as long as it stands.
        private final int[] became = new int[ROOM];
        private final int[] gone = new int[ROOM];
        private int goneCount = 0;
        private final int[] renumbered = new int[ROOM];
        private final int[] seamEnds = new int[MOST_PLACES * SEAMS];
        int places = 0;
        private int begin = 0;
        int end = 0;
        int rounds = 0;

        /** Whether the NET becomes READY; if not, it is TOO GREAT. */
        boolean makeReady(Word word, Rule[] rules) {
            layOut(word);
            fold();
            renumber();
            rounds = 0;
            while (rounds < MOST_ROUNDS && planSeams(rules)) {
                sewSeams(rules);
                fold();
                renumber();
                rounds++;
                if (places > MOST_PLACES) {
                    return false;
                }
            }
            return rounds < MOST_ROUNDS || !planSeams(rules);
        }

        private void layOut(Word word) {
            places = 0;
            begin = newPlace();
            end = begin;
            for (int i = 0; i < word.length; i++) {
                int next = newPlace();
                link(end, word.letters[i], next);
                end = next;
            }
        }

        private int newPlace() {
            if (places >= ROOM) {
                return 0;
            }
            int place = places;
            places++;
            became[place] = place;
            for (int letter = 0; letter < LETTERS; letter++) {
                links[place * LETTERS + letter] = NOWHERE;
            }
            return place;
        }

        /** Notes all that is to be sewn ahead of sewing: all of a ROUND happens at once. */
        private boolean planSeams(Rule[] rules) {
            boolean any = false;
            for (int p = 0; p < places && p < MOST_PLACES; p++) {
                for (int r = 0; r < RULES; r++) {
                    int oneEnd = rules[r].told ? rules[r].one.follow(links, p) : NOWHERE;
                    int otherEnd = rules[r].told ? rules[r].other.follow(links, p) : NOWHERE;
                    boolean differ = oneEnd != otherEnd;
                    seamEnds[p * SEAMS + 2 * r] = differ ? oneEnd : NOWHERE;
                    seamEnds[p * SEAMS + 2 * r + 1] = differ ? otherEnd : NOWHERE;
                    any = any || differ;
                }
            }
            return any;
        }

        private void sewSeams(Rule[] rules) {
            int before = Math.min(places, MOST_PLACES);
            for (int p = 0; p < before; p++) {
                for (int r = 0; r < RULES; r++) {
                    sew(p, seamEnds[p * SEAMS + 2 * r], rules[r].other);
                    sew(p, seamEnds[p * SEAMS + 2 * r + 1], rules[r].one);
                }
            }
        }

        private void sew(int from, int to, Word word) {
            if (to < 0) {
                return;
            }
            if (word.length == 0) {
                merge(from, to);
                return;
            }
            int at = from;
            for (int i = 0; i < word.length - 1; i++) {
                int next = newPlace();
                link(at, word.letters[i], next);
                at = next;
            }
            link(at, word.letters[word.length - 1], to);
        }

        /** Joins two places; where a like joint is there already, its other end is merged instead. */
        private void link(int from, int letter, int to) {
            int a = placeNow(from);
            int b = placeNow(to);
            int ahead = links[a * LETTERS + letter];
            int behind = links[b * LETTERS + (letter ^ 1)];
            if (ahead >= 0) {
                merge(ahead, b);
            } else if (behind >= 0) {
                merge(behind, a);
            } else {
                links[a * LETTERS + letter] = b;
                links[b * LETTERS + (letter ^ 1)] = a;
            }
        }

        private void merge(int one, int other) {
            int a = placeNow(one);
            int b = placeNow(other);
            if (a == b || goneCount >= ROOM) {
                return;
            }
            int going = Math.max(a, b);
            became[going] = Math.min(a, b);
            gone[goneCount] = going;
            goneCount++;
        }

        /** Each place goes at most once, so the row of those that have gone has an end. */
        private void fold() {
            for (int i = 0; i < goneCount && i < ROOM; i++) {
                handOver(gone[i]);
            }
            goneCount = 0;
        }

        /** Gives the joints of a place that has gone to the one that it became. */
        private void handOver(int place) {
            for (int letter = 0; letter < LETTERS; letter++) {
                int next = links[place * LETTERS + letter];
                if (next >= 0) {
                    links[place * LETTERS + letter] = NOWHERE;
                    links[next * LETTERS + (letter ^ 1)] = NOWHERE;
                    link(place, letter, next);
                }
            }
        }

        /** A place becomes only one of a lower number, so the chain has an end. */
        private int placeNow(int place) {
            int at = place;
            for (int step = 0; step < ROOM && became[at] != at; step++) {
                became[at] = became[became[at]];
                at = became[at];
            }
            return at;
        }

        /** Numbers the standing places from 0 on, in their order, so that none is moved onto a later one. */
        private void renumber() {
            int standing = 0;
            for (int p = 0; p < places; p++) {
                if (became[p] == p) {
                    renumbered[p] = standing;
                    standing++;
                }
            }
            begin = renumbered[placeNow(begin)];
            end = renumbered[placeNow(end)];
            for (int p = 0; p < places; p++) {
                if (became[p] == p) {
                    moveLinks(p, renumbered[p]);
                }
            }
            for (int p = 0; p < standing; p++) {
                became[p] = p;
            }
            places = standing;
        }

        private void moveLinks(int place, int target) {
            for (int letter = 0; letter < LETTERS; letter++) {
                int next = links[place * LETTERS + letter];
                links[target * LETTERS + letter] = next < 0 ? NOWHERE : renumbered[next];
            }
        }

        /** Whether a word is read from BEGIN to END. */
        boolean accepts(Word word) {
            return word.follow(links, begin) == end;
        }

        int joints() {
            int found = 0;
            for (int p = 0; p < places; p++) {
                for (int letter = 0; letter < LETTERS; letter += 2) {
                    if (links[p * LETTERS + letter] >= 0) {
                        found++;
                    }
                }
            }
            return found;
        }
    }
}
