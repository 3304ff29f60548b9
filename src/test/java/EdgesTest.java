/**
 * Each sentence of the document that names an edge has a test of its own here, under
 * its own words: the least and the most, none and all, just inside and just outside.
 * What refused calls leave unchanged is looked at in RefusalsTest.
 */
public final class EdgesTest {
    private static final int MIN = Integer.MIN_VALUE;
    private static final int MAX = Integer.MAX_VALUE;
    private static final int UNKNOWN = -1, OUTSIDE = -2, STATE = -3, FULL = -4, NONE = -6, FAULT = -7;
    private static final int IDENTITY = 7465;
    private static final int MOST_CALLS = 512;
    private static final String ALL = "01234";
    private static final String NOTHING = "-----";
    private static int wrong = 0;
    private static int looked = 0;
    private static int sentences = 0;
    private static String sentence = "";

    public static void main(String[] args) {
        terms();
        maps();
        pad();
        made();
        way();
        trees();
        rules();
        nets();
        netLimits();
        reads();
        images();
        counts();
        System.out.println(wrong == 0 ? sentences + " sentences, " + looked + " answers are as due"
            : wrong + " answers are not as due");
        if (wrong != 0) {
            System.exit(1);
        }
    }

    private static void terms() {
        theLastCallThatIsPromised();
        theFirstState();
        constants();
        asThingsAreThen();
    }

    private static void maps() {
        points();
        noTwoToTheSame();
        numbers();
        slots();
        ranks();
        idempotents();
        howOftenBehindItself();
        then();
        inverse();
        domAndRan();
        below();
        meet();
        join();
    }

    private static void pad() {
        signs();
        twelveSigns();
        wipe();
        lettersAlone();
        noLetters();
        valueWithoutLetters();
        valueOfTwelveLetters();
    }

    private static void made() {
        oneToThreeLetters();
        oneOrMoreLetters();
        fewestAndMostMade();
        kinds();
        groups();
        clean();
        core();
    }

    private static void way() {
        fewestLetters();
        firstOfSuch();
        letterOfAWay();
        notMade();
    }

    private static void trees() {
        rootAlone();
        undoing();
        mostPlaces();
        joinedToOne();
        alike();
        under();
    }

    private static void rules() {
        noRuleAtFirst();
        ruleNumbers();
        wordsAreNoMatter();
        asTheyAreWhenToldOf();
    }

    private static void nets() {
        netOfNoLetters();
        folded();
        bothWaysRound();
        toAnotherPlace();
        sewnWithoutLetters();
        atOnce();
        readyBehindNoRound();
    }

    private static void netLimits() {
        moreThan24BehindARound();
        moreThan24AheadOfFolding();
        moreThan24OnTheWay();
        mostThatIsSewn();
        readyBehind20Rounds();
    }

    private static void images() {
        imageInPlaceOfAnother();
        imageIsWithoutPadAndImages();
        imageOfAllElse();
        restoreOfNothing();
    }

    // ---- the test's own words

    private static void says(String words) {
        sentence = words;
        sentences++;
    }

    private static void due(String call, int got, int want) {
        looked++;
        if (got != want) {
            wrong++;
            System.out.println("\"" + sentence + "\": " + call + " answered " + got + ", due is " + want);
        }
    }

    /** The NUMBER of a map: for each point where it leads, '-' for nowhere. */
    private static int map(String leads) {
        int number = 0;
        for (int p = 4; p >= 0; p--) {
            number = number * 6 + (leads.charAt(p) == '-' ? 0 : leads.charAt(p) - '0' + 1);
        }
        return number;
    }

    private static int rank(String leads) {
        return leads.replace("-", "").length();
    }

    private static HalfMaps with(String... maps) {
        HalfMaps x = new HalfMaps();
        for (int s = 0; s < maps.length; s++) {
            x.set(s, map(maps[s]));
        }
        return x;
    }

    private static void holds(HalfMaps x, int slot, String leads) {
        due("of(" + slot + ", 0)", x.of(slot, 0), map(leads));
    }

    private static void write(HalfMaps x, int word, String letters) {
        for (char letter : letters.toCharArray()) {
            x.say(letter);
        }
        due("word(" + word + ") of " + letters, x.word(word), letters.length());
    }

    private static void tell(HalfMaps x, int rule, String text) {
        int is = text.indexOf('=');
        write(x, 2, text.substring(0, is));
        write(x, 3, text.substring(is + 1));
        x.rule(rule, 1, 2, 3);
    }

    /** An object with up to two rules "xy=yx" and the word in WORD 0. */
    private static HalfMaps ruled(String letters, String... rules) {
        HalfMaps x = new HalfMaps();
        for (int r = 0; r < rules.length; r++) {
            tell(x, r, rules[r]);
        }
        write(x, 0, letters);
        return x;
    }

    private static void netIs(HalfMaps x, int places, int joints, int rounds) {
        due("net(0, 0)", x.net(0, 0), places);
        due("net(0, 1)", x.net(0, 1), joints);
        due("net(0, 2)", x.net(0, 2), rounds);
        due("reads(0, 0)", x.reads(0, 0), 1);
    }

    private static void isTooGreat(HalfMaps x) {
        for (int what = 0; what < 3; what++) {
            due("net(0, " + what + ")", x.net(0, what), NONE);
        }
        for (int other = 0; other < 4; other++) {
            due("reads(0, " + other + ")", x.reads(0, other), NONE);
        }
    }

    private static void readsIs(HalfMaps x, String letters, int want) {
        write(x, 1, letters);
        due("reads of " + letters, x.reads(0, 1), want);
    }

    private static void madeIs(HalfMaps x, int n, int... want) {
        for (int what = 0; what < 6; what++) {
            due("made(" + n + ", " + what + ")", x.made(n, what), want[what]);
        }
    }

    private static void wayIs(HalfMaps x, int n, String leads, String letters) {
        x.set(5, map(leads));
        due("way(" + n + ", 5, -1) to " + leads, x.way(n, 5, -1), letters.length());
        for (int i = 0; i < letters.length(); i++) {
            due("way(" + n + ", 5, " + i + ") to " + leads, x.way(n, 5, i), "xXyYzZ".indexOf(letters.charAt(i)));
        }
        due("way(" + n + ", 5, " + letters.length() + ")", x.way(n, 5, letters.length()), NONE);
    }

    private static void treeIs(String letters, int... want) {
        HalfMaps x = new HalfMaps();
        write(x, 3, letters);
        for (int what = 0; what < 4; what++) {
            due("tree of " + letters + ", " + what, x.tree(3, what), want[what]);
        }
    }

    private static void compareIs(String one, String other, int want) {
        HalfMaps x = new HalfMaps();
        write(x, 0, one);
        write(x, 3, other);
        due(one + " with " + other, x.compare(0, 3), want);
        due(other + " with " + one, x.compare(3, 0), want == 2 ? 3 : want == 3 ? 2 : want);
    }

    // ---- what it is, and the terms

    private static void theLastCallThatIsPromised() {
        says("An object is used for at most 512 calls after it has been made");
        HalfMaps x = new HalfMaps();
        for (int call = 1; call <= MOST_CALLS; call++) {
            due("say, call " + call, x.say('x'), call <= 12 ? call : FULL);
        }
        x = with("12340", "10234", "0123-");
        for (int call = 4; call <= MOST_CALLS; call++) {
            due("made, call " + call, x.made(1 + call % 3, 0), new int[] {5, 120, 1546}[call % 3]);
        }
        x = new HalfMaps();
        for (int call = 1; call <= MOST_CALLS; call++) {
            int answer = call % 3 == 0 ? x.restore(1) : x.image(call % 3 - 1);
            due("image or restore, call " + call, answer, 1);
        }
        x = new HalfMaps();
        x.say('x');
        x.word(1);
        x.rule(1, 1, 0, 1);
        for (int call = 4; call <= MOST_CALLS; call++) {
            due("net, call " + call, x.net(call % 4, 1), 1);
        }
    }

    private static void theFirstState() {
        HalfMaps x = new HalfMaps();
        says("No WORD has letters");
        for (int w = 0; w < 4; w++) {
            due("count(" + (2 + w) + ")", x.count(2 + w), 0);
        }
        says("no RULE is told");
        due("count(7)", x.count(7), 0);
        due("taken back, though none is told", x.rule(1, 0, 0, 0), 0);
        says("THE PAD is empty");
        due("count(6)", x.count(6), 0);
        due("wipe()", x.wipe(), 0);
        says("no IMAGE is kept");
        due("count(8)", x.count(8), 0);
        due("restore(0)", x.restore(0), STATE);
        due("restore(1)", x.restore(1), STATE);
    }

    private static void constants() {
        says("UNKNOWN = -1, OUTSIDE = -2, STATE = -3, FULL = -4, NONE = -6, FAULT = -7");
        due("UNKNOWN", HalfMaps.UNKNOWN, UNKNOWN);
        due("OUTSIDE", HalfMaps.OUTSIDE, OUTSIDE);
        due("STATE", HalfMaps.STATE, STATE);
        due("FULL", HalfMaps.FULL, FULL);
        due("NONE", HalfMaps.NONE, NONE);
        due("FAULT", HalfMaps.FAULT, FAULT);
    }

    private static void asThingsAreThen() {
        says("Whatever is told is told as things are then");
        HalfMaps x = with("1----", NOTHING, NOTHING, "1----");
        due("made(1, 0)", x.made(1, 0), 5);
        due("way(1, 3, -1)", x.way(1, 3, -1), 1);
        x.set(0, map("0----"));
        due("made(1, 0)", x.made(1, 0), 1);
        due("way(1, 3, -1)", x.way(1, 3, -1), NONE);
        x.image(0);
        x.set(0, map("12340"));
        due("made(1, 0)", x.made(1, 0), 5);
        x.restore(0);
        due("made(1, 0)", x.made(1, 0), 1);
        madeShrinks();
        write(x, 0, "xy");
        due("tree(0, 0)", x.tree(0, 0), 3);
        due("net(0, 0)", x.net(0, 0), 3);
        x.word(0);
        due("tree(0, 0)", x.tree(0, 0), 1);
        due("net(0, 0)", x.net(0, 0), 1);
    }

    /** From all maps down to one, on one object: nothing of what was MADE ahead is left. */
    private static void madeShrinks() {
        HalfMaps x = with("12340", "10234", "0123-");
        madeIs(x, 3, 1546, 32, 6, 120, 0, 1);
        x.set(2, map("01234"));
        madeIs(x, 3, 120, 1, 1, 120, 1, 120);
        x.set(1, map("12340"));
        madeIs(x, 3, 5, 1, 1, 5, 1, 5);
        x.set(0, map("1234-"));
        madeIs(x, 1, 55, 15, 5, 1, 0, 1);
        x.set(0, 0);
        madeIs(x, 1, 1, 1, 1, 1, 1, 1);
        due("way(1, 3, -1)", x.way(1, 3, -1), NONE);
    }

    // ---- 1 maps

    private static void points() {
        says("POINTS are 0 to 4");
        HalfMaps x = with(NOTHING, "0----", "----4", "4---0");
        due("leads(1, 0)", x.leads(1, 0), 0);
        due("leads(2, 4)", x.leads(2, 4), 4);
        due("leads(3, 0)", x.leads(3, 0), 4);
        due("leads(3, 4)", x.leads(3, 4), 0);
        for (int odd : new int[] {-1, 5, -2, 6, 256, MIN, MAX}) {
            due("leads(5, " + odd + ")", x.leads(5, odd), UNKNOWN);
        }
        says("leads: UNKNOWN: both");
        for (int odd : new int[] {-1, 6, 256, MIN, MAX}) {
            due("leads(" + odd + ", 0)", x.leads(odd, 0), UNKNOWN);
            due("leads(" + odd + ", 5)", x.leads(odd, 5), UNKNOWN);
        }
        says("NONE: nowhere");
        for (int p = 0; p < 5; p++) {
            due("leads(0, " + p + ")", x.leads(0, p), NONE);
            due("leads(1, " + p + ")", x.leads(1, p), p == 0 ? 0 : NONE);
            due("leads(5, " + p + ")", x.leads(5, p), p);
        }
    }

    private static void noTwoToTheSame() {
        says("A MAP leads some POINTS to POINTS, no two to the same one");
        int[] power = {1, 6, 36, 216, 1296};
        for (int p = 0; p < 5; p++) {
            for (int q = 0; q < p; q++) {
                for (int target = 1; target <= 5; target++) {
                    HalfMaps x = new HalfMaps();
                    int number = target * (power[p] + power[q]);
                    due("set(0, " + number + ")", x.set(0, number), OUTSIDE);
                    int changed = target * power[p] + (target % 5 + 1) * power[q];
                    due("set(0, " + changed + ")", x.set(0, changed), IDENTITY);
                }
            }
        }
    }

    private static void numbers() {
        says("Its NUMBER: for each POINT p, 6 to the power of p, times ..; all added (0 to 7775)");
        HalfMaps x = new HalfMaps();
        int held = IDENTITY;
        int maps = 0;
        for (int number = -20; number < 7800; number++) {
            if (number % 200 == 0) {
                x = new HalfMaps();
                held = IDENTITY;
            }
            boolean isMap = number >= 0 && number <= 7775 && isMapsNumber(number);
            due("set(5, " + number + ")", x.set(5, number), isMap ? held : OUTSIDE);
            held = isMap ? number : held;
            maps += isMap ? 1 : 0;
            due("of(5, 0)", x.of(5, 0), held);
        }
        due("how many there are", maps, 1546);
        says("OUTSIDE: it is no MAP's NUMBER");
        x = new HalfMaps();
        due("the least", x.set(0, 0), IDENTITY);
        due("below it", x.set(0, -1), OUTSIDE);
        due("the greatest of a MAP", x.set(0, 7465), 0);
        due("above it", x.set(0, 7466), OUTSIDE);
        due("the greatest of all", x.set(0, 7775), OUTSIDE);
        for (int odd : new int[] {7776, 7776 + 1, 7776 + 7465, 65536, MIN, MIN + 1, MAX - 1, MAX}) {
            due("set(0, " + odd + ")", x.set(0, odd), OUTSIDE);
        }
        due("of(0, 0)", x.of(0, 0), 7465);
    }

    private static boolean isMapsNumber(int number) {
        int[] times = new int[6];
        for (int p = 0, rest = number; p < 5; p++, rest /= 6) {
            times[rest % 6]++;
        }
        return times[1] < 2 && times[2] < 2 && times[3] < 2 && times[4] < 2 && times[5] < 2;
    }

    private static void slots() {
        says("SLOTS 0 to 5 hold MAPS (at first the one that leads each POINT to itself)");
        HalfMaps x = new HalfMaps();
        for (int s = 0; s < 6; s++) {
            due("of(" + s + ", 0)", x.of(s, 0), IDENTITY);
            due("set(" + s + ", " + s + ")", x.set(s, s), IDENTITY);
        }
        for (int s = 0; s < 6; s++) {
            due("of(" + s + ", 0)", x.of(s, 0), s);
        }
        says("set: UNKNOWN");
        for (int odd : new int[] {-1, 6, 256, MIN, MAX}) {
            due("set(" + odd + ", 0)", x.set(odd, 0), UNKNOWN);
            due("set(" + odd + ", 7)", x.set(odd, 7), UNKNOWN);
        }
        says("of: UNKNOWN; OUTSIDE");
        for (int odd : new int[] {-1, 6, 256, MIN, MAX}) {
            due("of(" + odd + ", 0)", x.of(odd, 0), UNKNOWN);
            due("of(" + odd + ", 4)", x.of(odd, 4), UNKNOWN);
        }
        for (int odd : new int[] {-1, 4, 256, MIN, MAX}) {
            due("of(0, " + odd + ")", x.of(0, odd), OUTSIDE);
        }
    }

    /** An object for each map, so that none is used too often. */
    private static int[] howMany(int what, int most) {
        int[] found = new int[most + 1];
        for (int number = 0; number <= 7775; number++) {
            HalfMaps x = new HalfMaps();
            if (x.set(0, number) >= 0) {
                int answer = x.of(0, what);
                found[answer >= 0 && answer <= most ? answer : 0]++;
            }
        }
        return found;
    }

    private static void ranks() {
        says("RANK: how many POINTS it leads");
        int[] found = howMany(1, 5);
        int[] want = {1, 25, 200, 600, 600, 120};
        for (int rank = 0; rank <= 5; rank++) {
            due("how many of RANK " + rank, found[rank], want[rank]);
        }
        HalfMaps x = with(NOTHING, "----0");
        due("of(0, 1)", x.of(0, 1), 0);
        due("of(1, 1)", x.of(1, 1), 1);
        due("of(5, 1)", x.of(5, 1), 5);
    }

    private static void idempotents() {
        says("A MAP is IDEMPOTENT, if it leads POINTS to themselves alone");
        due("how many", howMany(2, 1)[1], 32);
        HalfMaps x = with(NOTHING, ALL, "----4", "0123-", "0124-", "01243");
        int[] want = {1, 1, 1, 1, 0, 0};
        for (int s = 0; s < 6; s++) {
            due("of(" + s + ", 2)", x.of(s, 2), want[s]);
        }
    }

    private static void howOftenBehindItself() {
        says("how often, 1 or more, at the least, it is put behind itself (3: 1, if it is itself)");
        int[] found = howMany(3, 6);
        due("none", found[0], 0);
        due("1, just the IDEMPOTENTS", found[1], 32);
        due("6, the most: a round of three and one of two", found[6], 20);
        HalfMaps x = with(NOTHING, ALL, "1234-", "10342", "12340", "1032-");
        int[] want = {1, 1, 5, 6, 5, 2};
        for (int s = 0; s < 6; s++) {
            due("of(" + s + ", 3)", x.of(s, 3), want[s]);
        }
    }

    private static void bothIs(String one, String other, int way, String want) {
        HalfMaps x = with(one, other);
        due("both of " + one + " and " + other, x.both(2, 0, 1, way), rank(want));
        holds(x, 2, want);
        holds(x, 0, one);
        holds(x, 1, other);
        due("into the first", with(one, other).both(0, 0, 1, way), rank(want));
        x.both(1, 0, 1, way);
        holds(x, 1, want);
    }

    private static void then() {
        says("FIRST a THEN b: each POINT that a leads to one that b leads is led to where that is");
        bothIs(NOTHING, ALL, 0, NOTHING);
        bothIs(ALL, NOTHING, 0, NOTHING);
        bothIs(NOTHING, NOTHING, 0, NOTHING);
        bothIs(ALL, "4-102", 0, "4-102");
        bothIs("4-102", ALL, 0, "4-102");
        bothIs("12---", "34---", 0, "4----");
        bothIs("34---", "12---", 0, NOTHING);
        bothIs("12340", "40123", 0, ALL);
        HalfMaps x = with("12340");
        due("itself behind itself, into itself", x.both(0, 0, 0, 0), 5);
        holds(x, 0, "23401");
        says("both: FIRST one THEN other (way = 0), MEET (1), JOIN (2). OUTSIDE");
        for (int odd : new int[] {-1, 3, 256, MIN, MAX}) {
            due("way " + odd, x.both(1, 0, 0, odd), OUTSIDE);
        }
        says("both: UNKNOWN: all three");
        for (int odd : new int[] {-1, 6, 256, MIN, MAX}) {
            due("to " + odd, x.both(odd, 0, 0, 0), UNKNOWN);
            due("one " + odd, x.both(0, odd, 0, 0), UNKNOWN);
            due("other " + odd, x.both(0, 0, odd, 0), UNKNOWN);
        }
    }

    private static void turnIs(String from, int way, String want) {
        HalfMaps x = with(from);
        due("turn of " + from, x.turn(5, 0, way), rank(want));
        holds(x, 5, want);
        holds(x, 0, from);
        due("into itself", x.turn(0, 0, way), rank(want));
        holds(x, 0, want);
    }

    private static void inverse() {
        says("INVERSE: each POINT to which one is led is led back to it");
        turnIs(NOTHING, 0, NOTHING);
        turnIs(ALL, 0, ALL);
        turnIs("0----", 0, "0----");
        turnIs("4----", 0, "----0");
        turnIs("----0", 0, "4----");
        turnIs("12340", 0, "40123");
        turnIs("4-102", 0, "324-0");
        for (int number = 0; number <= 7465; number++) {
            HalfMaps x = new HalfMaps();
            if (x.set(0, number) >= 0) {
                int rank = x.of(0, 1);
                due("turn of " + number, x.turn(0, 0, 0), rank);
                due("and back", x.turn(0, 0, 0), rank);
                due("of(0, 0)", x.of(0, 0), number);
            }
        }
        says("turn: UNKNOWN: both; OUTSIDE");
        HalfMaps x = new HalfMaps();
        for (int odd : new int[] {-1, 6, 256, MIN, MAX}) {
            due("to " + odd, x.turn(odd, 0, 0), UNKNOWN);
            due("from " + odd, x.turn(0, odd, 0), UNKNOWN);
        }
        for (int odd : new int[] {-1, 3, 256, MIN, MAX}) {
            due("way " + odd, x.turn(0, 0, odd), OUTSIDE);
        }
    }

    private static void domAndRan() {
        says("DOM of a MAP: the IDEMPOTENT that leads just the POINTS that it leads");
        turnIs(NOTHING, 1, NOTHING);
        turnIs("12340", 1, ALL);
        turnIs("4----", 1, "0----");
        turnIs("----0", 1, "----4");
        says("RAN: that of the POINTS to which it leads");
        turnIs(NOTHING, 2, NOTHING);
        turnIs("12340", 2, ALL);
        turnIs("4----", 2, "----4");
        turnIs("----0", 2, "0----");
    }

    private static void below() {
        says("A MAP lies BELOW another one (or itself), if each POINT it leads the other one leads to the same");
        HalfMaps x = with(NOTHING, "1----", "12---", "1---2", "12340");
        int[][] want = {{1, 1, 1, 1, 1, 1}, {0, 1, 1, 1, 1, 0}, {0, 0, 1, 0, 1, 0}, {0, 0, 0, 1, 0, 0}, {0, 0, 0, 0, 1, 0},
            {0, 0, 0, 0, 0, 1}};
        for (int one = 0; one < 6; one++) {
            for (int other = 0; other < 6; other++) {
                due("below(" + one + ", " + other + ")", x.below(one, other), want[one][other]);
            }
        }
        x.set(0, 0);
        x.set(1, 0);
        due("nothing below nothing", x.below(0, 1), 1);
        says("below: UNKNOWN: both");
        for (int odd : new int[] {-1, 6, 256, MIN, MAX}) {
            due("below(" + odd + ", 0)", x.below(odd, 0), UNKNOWN);
            due("below(0, " + odd + ")", x.below(0, odd), UNKNOWN);
        }
    }

    private static void meet() {
        says("MEET of two: what both lead alike");
        bothIs(NOTHING, NOTHING, 1, NOTHING);
        bothIs(NOTHING, ALL, 1, NOTHING);
        bothIs(ALL, NOTHING, 1, NOTHING);
        bothIs(ALL, ALL, 1, ALL);
        bothIs("12340", "12340", 1, "12340");
        bothIs("12340", "40123", 1, NOTHING);
        bothIs("1----", "1-2--", 1, "1----");
        bothIs("12034", "120--", 1, "120--");
        bothIs("0----", "-0---", 1, NOTHING);
    }

    private static void join() {
        says("JOIN: what one or the other leads; there is one, if that is a MAP");
        bothIs(NOTHING, NOTHING, 2, NOTHING);
        bothIs(NOTHING, ALL, 2, ALL);
        bothIs("12340", NOTHING, 2, "12340");
        bothIs(ALL, ALL, 2, ALL);
        bothIs("0123-", "----4", 2, ALL);
        bothIs("----0", "1234-", 2, "12340");
        bothIs("1-0--", "12---", 2, "120--");
        says("both: STATE: there is no JOIN");
        String[][] none = {{"0----", "1----"}, {"0----", "-0---"}, {"0123-", "----3"}, {"0123-", "0124-"}, {ALL, "12340"},
            {"----4", "---4-"}, {"4----", "3----"}};
        for (String[] pair : none) {
            for (int to = 0; to < 3; to++) {
                HalfMaps x = with(pair);
                due("JOIN of " + pair[0] + " and " + pair[1], x.both(to, 0, 1, 2), STATE);
                due("the other way round", x.both(to, 1, 0, 2), STATE);
                holds(x, 0, pair[0]);
                holds(x, 1, pair[1]);
                holds(x, 2, ALL);
            }
        }
    }

    // ---- 1 words

    private static void signs() {
        says("say: OUTSIDE: it is not 33 to 126");
        HalfMaps x = new HalfMaps();
        for (int odd : new int[] {32, 127, 31, 128, 0, -1, -33, 33 + 256, 120 + 256, 120 + 65536, MIN, MIN + 120, MAX}) {
            due("say(" + odd + ")", x.say(odd), OUTSIDE);
        }
        due("count(6)", x.count(6), 0);
        due("say(33)", x.say(33), 1);
        due("say(126)", x.say(126), 2);
        for (int sign = 33; sign <= 126; sign++) {
            due("say(" + sign + ")", new HalfMaps().say(sign), 1);
        }
    }

    private static void twelveSigns() {
        says("THE PAD has up to 12 signs; say: FULL: there are 12");
        HalfMaps x = new HalfMaps();
        for (int round = 0; round < 3; round++) {
            for (int i = 1; i <= 12; i++) {
                due("say", x.say("xyzXYZ".charAt(i % 6)), i);
            }
            due("the thirteenth", x.say('x'), FULL);
            due("the thirteenth again", x.say('#'), FULL);
            due("count(6)", x.count(6), 12);
            due("what empties it", round == 1 ? x.wipe() : x.word(round), 12);
            due("count(6)", x.count(6), 0);
        }
        due("count(2)", x.count(2), 12);
        due("count(3)", x.count(3), 0);
        due("count(4)", x.count(4), 12);
        due("the refused sign is in none", x.compare(0, 2), 1);
    }

    private static void wipe() {
        says("THE PAD is empty: how many signs it had");
        for (int signs = 0; signs <= 13; signs++) {
            HalfMaps x = new HalfMaps();
            for (int i = 0; i < signs; i++) {
                x.say('~');
            }
            due("wipe of " + signs, x.wipe(), Math.min(signs, 12));
            due("wipe again", x.wipe(), 0);
            due("what was there is in no WORD", x.word(0), 0);
        }
    }

    private static void lettersAlone() {
        says("word: FAULT: there is another sign");
        for (int sign = 33; sign <= 126; sign++) {
            boolean isLetter = sign >= 'x' && sign <= 'z' || sign >= 'X' && sign <= 'Z';
            HalfMaps x = new HalfMaps();
            x.say(sign);
            due("word of sign " + sign, x.word(3), isLetter ? 1 : FAULT);
            due("count(5)", x.count(5), isLetter ? 1 : 0);
            due("count(6)", x.count(6), isLetter ? 0 : 1);
        }
        for (int at = 0; at < 12; at++) {
            HalfMaps x = new HalfMaps();
            write(x, 1, "xY");
            for (int i = 0; i < 12; i++) {
                x.say(i == at ? 'w' : 'y');
            }
            due("another sign at " + at, x.word(1), FAULT);
            due("the WORD stays", x.count(3), 2);
            due("THE PAD stays", x.count(6), 12);
            due("and is full", x.say('x'), FULL);
        }
        says("word: UNKNOWN");
        HalfMaps x = new HalfMaps();
        x.say('x');
        for (int odd : new int[] {-1, 4, 256, MIN, MAX}) {
            due("word(" + odd + ")", x.word(odd), UNKNOWN);
        }
        due("THE PAD stays", x.count(6), 1);
    }

    private static void noLetters() {
        says("(none is a WORD, too)");
        HalfMaps x = new HalfMaps();
        for (int w = 0; w < 4; w++) {
            due("of an empty PAD", x.word(w), 0);
            write(x, w, "xyzxyzxyzxyz");
            due("in place of the longest one", x.word(w), 0);
            due("count(" + (2 + w) + ")", x.count(2 + w), 0);
            due("tree(" + w + ", 0)", x.tree(w, 0), 1);
        }
        write(x, 0, "xyzxyzxyzxyz");
        write(x, 0, "X");
        due("a shorter one in place of a longer one", x.tree(0, 0), 2);
        due("tree(0, 1)", x.tree(0, 1), 1);
    }

    private static void valueWithoutLetters() {
        says("(without letters that which leads each POINT to itself)");
        HalfMaps x = with(NOTHING, NOTHING, NOTHING, NOTHING);
        for (int w = 0; w < 4; w++) {
            due("value(3, " + w + ")", x.value(3, w), 5);
            holds(x, 3, ALL);
            x.set(3, 0);
        }
        due("into x", x.value(0, 0), 5);
        holds(x, 0, ALL);
        says("value: UNKNOWN: both");
        for (int odd : new int[] {-1, 6, 256, MIN, MAX}) {
            due("value(" + odd + ", 0)", x.value(odd, 0), UNKNOWN);
        }
        for (int odd : new int[] {-1, 4, 256, MIN, MAX}) {
            due("value(0, " + odd + ")", x.value(0, odd), UNKNOWN);
        }
    }

    private static void valueOfTwelveLetters() {
        says("VALUE of a WORD: FIRST its first letter THEN the next one, and so on");
        HalfMaps x = with("12340", "10234", "0123-");
        write(x, 0, "xxxxxxxxxxxx");
        due("x twelve times", x.value(5, 0), 5);
        holds(x, 5, "23401");
        write(x, 1, "xxxxxxxxxxxz");
        due("z at the end", x.value(5, 1), 4);
        holds(x, 5, "123-0");
        write(x, 2, "zxxxxxxxxxxx");
        due("z at the beginning", x.value(5, 2), 4);
        holds(x, 5, "1234-");
        write(x, 3, "zxzxzxzxzxzx");
        due("until nothing is left", x.value(5, 3), 0);
        holds(x, 5, NOTHING);
        due("into x itself", x.value(0, 1), 4);
        holds(x, 0, "123-0");
    }

    // ---- 2 what is made

    private static void oneToThreeLetters() {
        says("made: MADE of n letters, 1 to 3. OUTSIDE: both");
        HalfMaps x = with("12340", "10234", "0123-");
        due("made(1, 0)", x.made(1, 0), 5);
        due("made(2, 0)", x.made(2, 0), 120);
        due("made(3, 0)", x.made(3, 0), 1546);
        due("made(2, 0) behind three", x.made(2, 0), 120);
        due("made(1, 0) behind two", x.made(1, 0), 5);
        due("made(3, 0) behind one", x.made(3, 0), 1546);
        due("made(1, 0) behind three", x.made(1, 0), 5);
        for (int odd : new int[] {0, 4, -1, 257, MIN, MIN + 1, MAX}) {
            due("made(" + odd + ", 0)", x.made(odd, 0), OUTSIDE);
            due("made(" + odd + ", 5)", x.made(odd, 5), OUTSIDE);
        }
        for (int odd : new int[] {-1, 6, 256, MIN, MAX}) {
            for (int n = 1; n <= 3; n++) {
                due("made(" + n + ", " + odd + ")", x.made(n, odd), OUTSIDE);
            }
        }
        says("(x; x and y; all three)");
        x = with(NOTHING, "12340", "1----");
        due("x alone", x.made(1, 0), 1);
        due("x and y", x.made(2, 0), 6);
        x.set(2, map("10234"));
        due("z does not matter for two", x.made(2, 0), 6);
        due("but for three", x.made(3, 0), 121);
        x.set(3, map("0----"));
        due("SLOTS 3 to 5 do not matter", x.made(3, 0), 121);
    }

    private static void oneOrMoreLetters() {
        says("VALUES of some row of one or more of these letters and their INVERSES");
        HalfMaps x = with(NOTHING, NOTHING, NOTHING);
        madeIs(x, 3, 1, 1, 1, 1, 1, 1);
        due("what leads each POINT to itself is not MADE", x.way(3, 5, -1), NONE);
        due("way(3, 5, 0)", x.way(3, 5, 0), NONE);
        x.set(0, map("4----"));
        due("the letter, its INVERSE, both DOMS, and nothing", x.made(1, 0), 5);
        due("what leads each POINT to itself is not MADE", x.way(1, 5, -1), NONE);
        x.set(0, map("1032-"));
        madeIs(x, 1, 2, 1, 1, 2, 1, 2);
    }

    private static void fewestAndMostMade() {
        says("how many MAPS (what = 0), IDEMPOTENTS (1)");
        madeIs(new HalfMaps(), 1, 1, 1, 1, 1, 1, 1);
        madeIs(with(NOTHING), 1, 1, 1, 1, 1, 1, 1);
        madeIs(with("----4"), 1, 1, 1, 1, 1, 1, 1);
        madeIs(with("12340", "10234", "0123-"), 3, 1546, 32, 6, 120, 0, 1);
        // Of RANK 5 to 0: 5 turns, 25 times two, 100 times six, 100 times two, 25, and nothing.
        madeIs(with("12340", "1023-"), 2, 881, 32, 6, 6, 0, 1);
        madeIs(with("12340", "10234"), 2, 120, 1, 1, 120, 1, 120);
    }

    private static void kinds() {
        says("two of which are of one KIND, if something that is MADE has the one as DOM, the other as RAN");
        madeIs(with("0----", "-1---", "--2--"), 3, 4, 4, 4, 1, 1, 1);
        madeIs(with("1----", "--2--"), 2, 6, 4, 3, 1, 0, 1);
        madeIs(with("1----", "-2---"), 2, 10, 4, 2, 1, 0, 1);
    }

    private static void groups() {
        says("GROUP of an IDEMPOTENT of it: how much that is MADE has it as DOM and as RAN");
        madeIs(with("10342"), 1, 6, 1, 1, 6, 1, 6);
        madeIs(with("1234-"), 1, 55, 15, 5, 1, 0, 1);
        // Two IDEMPOTENTS with GROUPS of 3 (0 1 2 turned round) and 2 (3 and 4 exchanged): the greatest is told.
        madeIs(with("120--", "---43"), 2, 6, 3, 3, 3, 0, 1);
    }

    private static void clean() {
        says("CLEAN, if nothing of it that is not IDEMPOTENT has an IDEMPOTENT of it BELOW it");
        due("IDEMPOTENTS alone", with("0----", "01---", NOTHING).made(3, 4), 1);
        due("what leads nothing is BELOW all", with("1023-", NOTHING).made(2, 4), 0);
        due("keeps 3, but that alone is not MADE", with("1023-").made(1, 4), 1);
        due("keeps 3, and that is MADE", with("1023-", "---3-").made(2, 4), 0);
        due("an IDEMPOTENT that lies BELOW IDEMPOTENTS alone", with("1023-", "01---").made(2, 4), 1);
    }

    private static void core() {
        says("CORE: FIRST one IDEMPOTENT of it THEN the next, and so on, of all of them; IMAGE GROUP");
        due("one IDEMPOTENT", with("12340").made(1, 5), 5);
        due("CORE leads nothing, but is MADE", with("0----", "-1---").made(2, 5), 1);
        due("CORE leads 3 and 4", with("01-43", "--243").made(2, 5), 2);
        due("CORE leads 0", with("0-2--", "01---").made(2, 5), 1);
    }

    private static void fewestLetters() {
        says("WAY to a MAP that is MADE: the fewest letters of whose row it is the VALUE");
        HalfMaps x = with("12340", "10234", "0123-");
        wayIs(x, 3, "12340", "x");
        wayIs(x, 3, "40123", "X");
        wayIs(x, 3, ALL, "xX");
        wayIs(x, 1, "23401", "xx");
        wayIs(x, 1, "34012", "XX");
        wayIs(with(ALL, ALL, ALL), 3, ALL, "x");
        wayIs(with("1234-"), 1, NOTHING, "xxxxx");
        due("a long one", waysLength(x, "4----"), 8);
        int most = 0;
        for (int number = 0; number <= 7465; number++) {
            HalfMaps y = with("12340", "10234", "0123-");
            if (y.set(5, number) >= 0) {
                most = Math.max(most, y.way(2, 5, -1));
            }
        }
        due("the longest one of x and y", most, 10);
    }

    private static int waysLength(HalfMaps x, String leads) {
        x.set(5, map(leads));
        int length = x.way(3, 5, -1);
        due("its last letter is told", x.way(3, 5, length - 1) >= 0 ? 1 : 0, 1);
        due("and none behind it", x.way(3, 5, length), NONE);
        return length;
    }

    private static void firstOfSuch() {
        says("of such the first: .. the one that is earlier in x, X, y, Y, z, Z");
        wayIs(with("10234", "10234", "10234"), 3, "10234", "x");
        wayIs(with("10234"), 1, ALL, "xx");
        wayIs(with("12340", "40123", "40123"), 3, "40123", "X");
        wayIs(with(NOTHING, "12340", "40123"), 3, "40123", "Y");
        wayIs(with(NOTHING, "12340", "23401"), 3, "34012", "Z");
        wayIs(with(NOTHING, "12340", ALL), 3, "34012", "YY");
        wayIs(with(NOTHING, NOTHING, "1----"), 3, "-0---", "Z");
        wayIs(with(NOTHING, NOTHING, "1----"), 3, NOTHING, "x");
    }

    private static void letterOfAWay() {
        says("NONE: .. there is none such (i below -1, too)");
        HalfMaps x = with("1234-", ALL, ALL, "123--");
        due("way(1, 3, -1)", x.way(1, 3, -1), 3);
        int[] want = {0, 0, 1};
        for (int i = 0; i < 3; i++) {
            due("way(1, 3, " + i + ")", x.way(1, 3, i), want[i]);
        }
        for (int odd : new int[] {-2, -3, 3, 4, 256, 65536, MIN, MIN + 1, MAX - 1, MAX}) {
            due("way(1, 3, " + odd + ")", x.way(1, 3, odd), NONE);
        }
        says("way: OUTSIDE: n; UNKNOWN");
        for (int odd : new int[] {0, 4, -1, 257, MIN, MAX}) {
            due("way(" + odd + ", 3, 0)", x.way(odd, 3, 0), OUTSIDE);
            due("way(" + odd + ", 6, 0)", x.way(odd, 6, 0), OUTSIDE);
        }
        for (int odd : new int[] {-1, 6, 256, MIN, MAX}) {
            due("way(1, " + odd + ", 0)", x.way(1, odd, 0), UNKNOWN);
            due("way(1, " + odd + ", -2)", x.way(1, odd, -2), UNKNOWN);
        }
    }

    private static void notMade() {
        says("NONE: it is not MADE of them");
        HalfMaps x = with("12340", "10234", "0123-", NOTHING);
        for (int i : new int[] {MIN, -2, -1, 0, 1, MAX}) {
            due("way(2, 3, " + i + ")", x.way(2, 3, i), NONE);
            due("y of x alone: way(1, 1, " + i + ")", x.way(1, 1, i), NONE);
        }
        due("MADE of three", x.way(3, 3, -1) > 0 ? 1 : 0, 1);
        due("MADE of two", x.way(2, 1, -1), 1);
    }

    // ---- 3 trees

    private static void rootAlone() {
        says("TREE of a WORD: a walk from ROOT (of no letters: ROOT alone)");
        treeIs("", 1, 0, 0, 0);
        says("tree: UNKNOWN; OUTSIDE");
        HalfMaps x = new HalfMaps();
        for (int odd : new int[] {-1, 4, 256, MIN, MAX}) {
            due("tree(0, " + odd + ")", x.tree(0, odd), OUTSIDE);
            due("tree(" + odd + ", 0)", x.tree(odd, 0), UNKNOWN);
            due("tree(" + odd + ", 4)", x.tree(odd, 4), UNKNOWN);
        }
        says("each letter goes on to a new place");
        for (char letter : "xXyYzZ".toCharArray()) {
            treeIs("" + letter, 2, 1, 1, 2);
            treeIs("" + letter + letter, 3, 2, 2, 2);
        }
    }

    private static void undoing() {
        says("if it undoes a letter by which one came to where one is, back to where that one came from");
        for (String pair : new String[] {"xX", "Xx", "yY", "Yy", "zZ", "Zz"}) {
            treeIs(pair, 2, 0, 1, 2);
            treeIs(pair + pair + pair + pair + pair + pair, 2, 0, 1, 2);
        }
        treeIs("xY", 3, 2, 2, 2);
        treeIs("xyzZYX", 4, 0, 3, 2);
        treeIs("xyzxyzZYXZYX", 7, 0, 6, 2);
        says("by a letter that was gone from there ahead, to where that one went");
        treeIs("xXx", 2, 1, 1, 2);
        treeIs("xyYXxy", 3, 2, 2, 2);
        treeIs("xyYXXxxyYX", 4, 0, 2, 2);
        says("END is where the walk ends");
        treeIs("xXXx", 3, 0, 1, 2);
        treeIs("xyzZY", 4, 1, 3, 2);
    }

    private static void mostPlaces() {
        says("how many places (what = 0), how far END is (1), how far the farthest place is (2)");
        treeIs("xxxxxxxxxxxx", 13, 12, 12, 2);
        treeIs("ZZZZZZZZZZZZ", 13, 12, 12, 2);
        treeIs("xxxxxxxxxxxX", 12, 10, 11, 2);
        treeIs("xxxxxxXXXXXX", 7, 0, 6, 2);
    }

    private static void joinedToOne() {
        says("how many places are joined to just one other one (3)");
        treeIs("", 1, 0, 0, 0);
        treeIs("x", 2, 1, 1, 2);
        treeIs("xXXxyYYyzZZz", 7, 0, 1, 6);
        treeIs("xyYzZxXXyYY", 7, 1, 2, 5);
        treeIs("xXyYzZXxYyZz", 7, 0, 1, 6);
    }

    private static void alike() {
        says("Two WORDS are ALIKE, if both TREES have the same places and END");
        compareIs("", "", 1);
        compareIs("xX", "xXxX", 1);
        compareIs("x", "xXx", 1);
        compareIs("xxxxxxxxxxxx", "xxxxxxxxxxxx", 1);
        compareIs("xXyYzZXxYyZz", "ZzYyXxzZyYxX", 1);
        compareIs("xX", "xXx", 0);
        compareIs("xx", "xxX", 0);
        HalfMaps x = new HalfMaps();
        due("a WORD with itself", x.compare(3, 3), 1);
        due("two without letters", x.compare(0, 3), 1);
        says("compare: UNKNOWN: both");
        for (int odd : new int[] {-1, 4, 256, MIN, MAX}) {
            due("compare(" + odd + ", 0)", x.compare(odd, 0), UNKNOWN);
            due("compare(0, " + odd + ")", x.compare(0, odd), UNKNOWN);
        }
    }

    private static void under() {
        says("one is UNDER the other one, if END is the same and it has all places of the other one");
        compareIs("xX", "", 2);
        compareIs("", "zZ", 3);
        compareIs("", "x", 0);
        compareIs("xxX", "x", 2);
        compareIs("xXyYzZXxYyZz", "xX", 2);
        compareIs("xX", "Xx", 0);
        compareIs("xXy", "xyY", 0);
        compareIs("xXyYz", "yYxXz", 1);
        compareIs("xXz", "yYz", 0);
        compareIs("xxxxxxxxxxxx", "xxxxxxxxxxx", 0);
    }

    // ---- 4 rules and nets

    private static void noRuleAtFirst() {
        says("RULES are 0 and 1 ..; none is told at first");
        HalfMaps x = new HalfMaps();
        write(x, 0, "xxxxxx");
        netIs(x, 7, 6, 0);
        due("rule(0, 1, 0, 1)", x.rule(0, 1, 0, 1), 1);
        due("told again", x.rule(0, 1, 0, 1), 1);
        due("rule(1, 1, 0, 1)", x.rule(1, 1, 0, 1), 2);
        due("told again", x.rule(1, 1, 0, 0), 2);
        due("taken back", x.rule(0, 0, 0, 0), 1);
        due("taken back again", x.rule(0, 0, 0, 0), 1);
        due("the other one, too", x.rule(1, 0, 0, 0), 0);
        netIs(x, 7, 6, 0);
    }

    private static void ruleNumbers() {
        says("rule: OUTSIDE: RULE, is");
        HalfMaps x = new HalfMaps();
        for (int odd : new int[] {-1, 2, 256, MIN, MIN + 1, MAX}) {
            due("rule(" + odd + ", 1, 0, 0)", x.rule(odd, 1, 0, 0), OUTSIDE);
            due("rule(" + odd + ", 0, 0, 0)", x.rule(odd, 0, 0, 0), OUTSIDE);
            due("rule(0, " + odd + ", 0, 0)", x.rule(0, odd, 0, 0), OUTSIDE);
            due("rule(1, " + odd + ", 4, 4)", x.rule(1, odd, 4, 4), OUTSIDE);
        }
        due("count(7)", x.count(7), 0);
        says("rule: UNKNOWN: both WORDS (of 1 alone)");
        for (int odd : new int[] {-1, 4, 256, MIN, MAX}) {
            due("rule(0, 1, " + odd + ", 0)", x.rule(0, 1, odd, 0), UNKNOWN);
            due("rule(1, 1, 3, " + odd + ")", x.rule(1, 1, 3, odd), UNKNOWN);
            due("rule(1, 1, " + odd + ", " + odd + ")", x.rule(1, 1, odd, odd), UNKNOWN);
        }
        due("count(7)", x.count(7), 0);
        due("the first and the last", x.rule(0, 1, 0, 3), 1);
        due("the last and the first", x.rule(1, 1, 3, 0), 2);
    }

    private static void wordsAreNoMatter() {
        says("is not told any more (0; the WORDS are no matter)");
        for (int odd : new int[] {-1, 4, 256, MIN, MAX}) {
            HalfMaps x = ruled("x", "x=y", "y=z");
            due("count(7)", x.count(7), 2);
            due("rule(0, 0, " + odd + ", 0)", x.rule(0, 0, odd, 0), 1);
            netIs(x, 2, 1, 0);
            due("rule(1, 0, 0, " + odd + ")", x.rule(1, 0, 0, odd), 0);
            due("rule(1, 0, " + odd + ", " + odd + ")", x.rule(1, 0, odd, odd), 0);
        }
    }

    private static void asTheyAreWhenToldOf() {
        says("a RULE says of two WORDS (as they are when it is told) that they are the same");
        HalfMaps x = ruled("x", "x=y");
        x.word(2);
        write(x, 3, "zzzzzzzzzzzz");
        netIs(x, 2, 2, 1);
        due("told anew of the WORDS as they are", x.rule(0, 1, 2, 3), 1);
        netIs(x, 24, 25, 1);
        x = ruled("x");
        due("of one WORD and itself", x.rule(0, 1, 0, 0), 1);
        netIs(x, 2, 1, 0);
        due("of two without letters", x.rule(1, 1, 2, 3), 2);
        netIs(x, 2, 1, 0);
    }

    private static void netOfNoLetters() {
        says("NET of a WORD: at first a row of places, joined by its letters, from BEGIN to END, FOLDED");
        netIs(ruled(""), 1, 0, 0);
        netIs(ruled("x"), 2, 1, 0);
        netIs(ruled("X"), 2, 1, 0);
        netIs(ruled("xyzXYZxyzXYZ"), 13, 12, 0);
        netIs(ruled("xXxXxXxXxXxX"), 2, 1, 0);
        says("net: UNKNOWN; OUTSIDE");
        HalfMaps x = new HalfMaps();
        for (int odd : new int[] {-1, 4, 256, MIN, MAX}) {
            due("net(" + odd + ", 0)", x.net(odd, 0), UNKNOWN);
        }
        for (int odd : new int[] {-1, 3, 256, MIN, MAX}) {
            due("net(0, " + odd + ")", x.net(0, odd), OUTSIDE);
        }
    }

    private static void folded() {
        says("FOLDED: as long as two joints of one letter lead away from one place, or to one place");
        netIs(ruled("xX"), 2, 1, 0);
        netIs(ruled("Xx"), 2, 1, 0);
        netIs(ruled("xyYX"), 3, 2, 0);
        netIs(ruled("xyzZYXxyzZYX"), 4, 3, 0);
        netIs(ruled("xyXxYX"), 4, 3, 0);
        says("(like joints one joint)");
        netIs(ruled("", "=x", "=xx"), 1, 1, 1);
        netIs(ruled("", "=xxxxxxxxxxxx", "=xxxxxxxxx"), 3, 3, 1);
        netIs(ruled("x", "x=y", "y=x"), 2, 2, 1);
    }

    private static void bothWaysRound() {
        says("for each place p and each RULE that is told, both ways round");
        netIs(ruled("x", "x=y"), 2, 2, 1);
        netIs(ruled("x", "y=x"), 2, 2, 1);
        netIs(ruled("y", "x=y"), 2, 2, 1);
        netIs(ruled("y", "x=y", "y=z"), 2, 3, 1);
        netIs(ruled("z", "x=y", "y=z"), 2, 3, 2);
        netIs(ruled("xy", "x=z"), 3, 3, 1);
        netIs(ruled("xx", "x=z"), 3, 4, 1);
        netIs(ruled("Z", "x=z"), 2, 2, 1);
        netIs(ruled("", "x=z"), 1, 0, 0);
    }

    private static void toAnotherPlace() {
        says("its other one is not read from p to q (by no way or to another place)");
        netIs(ruled("xX", "x=X"), 2, 2, 1);
        netIs(ruled("xx", "x=X"), 2, 2, 1);
        netIs(ruled("xXyY", "x=y"), 2, 2, 1);
        netIs(ruled("xXyYzZ", "x=y", "y=z"), 2, 3, 1);
        netIs(ruled("xxxx", "x=xx"), 1, 1, 1);
        readsIs(ruled("xXy", "x=y"), "x", 1);
        readsIs(ruled("xXy"), "x", 0);
    }

    private static void sewnWithoutLetters() {
        says("(without letters: p and q become one)");
        netIs(ruled("x", "x="), 1, 1, 1);
        netIs(ruled("x", "=x"), 1, 1, 1);
        netIs(ruled("xxxxxxxxxxxx", "x="), 1, 1, 1);
        netIs(ruled("xyxyxyxyxyxy", "x=", "y="), 1, 2, 1);
        netIs(ruled("xxxxxx", "xxxx="), 4, 4, 1);
        says("that other WORD is sewn from p to q (of no letters: from p to p)");
        netIs(ruled("", "=xx"), 2, 2, 1);
        netIs(ruled("", "xxxxxxxxxxxx="), 12, 12, 1);
        netIs(ruled("", "=x", "=y"), 1, 2, 1);
        // Each new place needs another new one.
        isTooGreat(ruled("xyxyxyxyxyxy", "xy="));
        isTooGreat(ruled("", "=xX"));
        says("a RULE both of whose WORDS have no letters sews nothing");
        netIs(ruled("", "="), 1, 0, 0);
        netIs(ruled("xyzxyzxyzxyz", "=", "="), 13, 12, 0);
    }

    private static void atOnce() {
        says("all of this at once, then it is FOLDED");
        netIs(ruled("x", "x=y", "y=z"), 2, 3, 2);
        netIs(ruled("x", "y=z", "x=y"), 2, 3, 2);
        netIs(ruled("xxy", "xy=yx"), 6, 7, 2);
        netIs(ruled("yxx", "xy=yx"), 6, 7, 2);
        netIs(ruled("", "=xxx", "x=y"), 3, 6, 2);
        says("READY .. behind how many ROUNDS");
        netIs(ruled("xyyyyy", "xy=yx"), 12, 16, 5);
    }

    private static void readyBehindNoRound() {
        says("It is READY when there is nothing to sew");
        netIs(ruled("", "x=y", "y=z"), 1, 0, 0);
        netIs(ruled("zzzzzzzzzzzz", "x=y", "xy=yx"), 13, 12, 0);
        netIs(ruled("xXYy", "xX=yY"), 5, 4, 1);
        netIs(ruled("xyxyxyxyxyxy", "x=x", "xX=xXxX"), 13, 12, 0);
    }

    private static void moreThan24BehindARound() {
        says("TOO GREAT, if behind a ROUND, FOLDED, it has more than 24 places");
        netIs(ruled("y", "=xxxxxxxxxxxx"), 24, 25, 1);
        isTooGreat(ruled("yy", "=xxxxxxxxxxxx"));
        netIs(ruled("xxxxxxxxxxxY", "xX=xyYX"), 24, 23, 1);
        // 25 places, and nothing more to sew.
        isTooGreat(ruled("xxxxxxxxxxxx", "xX=xyYX"));
        // 24 places behind a round and behind the next ones.
        netIs(ruled("YxXxx", "YYYx=x", "YxXx=xyxy"), 24, 48, 6);
        says("NONE: it is TOO GREAT");
        HalfMaps x = ruled("yy", "=xxxxxxxxxxxx");
        isTooGreat(x);
        due("taken back", x.rule(0, 0, 0, 0), 0);
        netIs(x, 3, 2, 0);
    }

    private static void moreThan24AheadOfFolding() {
        says("more than 24 places ahead of folding are no matter");
        // Each of eleven places gets ten new ones, nine of which fold.
        netIs(ruled("xxxxxxxxxxx", "x=xyYyYyYyYyY"), 23, 22, 1);
        isTooGreat(ruled("xxxxxxxxxxxx", "x=xyYyYyYyYyY"));
        netIs(ruled("xxxxxxxxxxxx", "x=xX"), 1, 1, 1);
        netIs(ruled("xxxxxxxxxxxx", "=xxxxx", "=xxxxxxxxxxxx"), 1, 1, 1);
    }

    private static void moreThan24OnTheWay() {
        says("behind a ROUND: 24 places on the way are not too many, 25 are, even if fewer would come of them");
        due("24, then 9", ruled("XXXy", "xXYYyY=y", "YXyXxyXX=").net(0, 0), 9);
        due("24, then 1", ruled("y", "xYXY=Yx", "yXXYyYx=").net(0, 0), 1);
        due("24, then 5", ruled("Yx", "XYXX=xx", "Y=XYxy").net(0, 0), 5);
        isTooGreat(ruled("yXYyxx", "YyxXy=YyYX", "YYXYxyx="));
        isTooGreat(ruled("XYXYY", "YyxyXYY=Yy", "xyxYXY=XyYYy"));
        isTooGreat(ruled("XxYY", "yYYxyxxY=Y", "YyYXxYy=yxXXyXyY"));
    }

    private static void mostThatIsSewn() {
        says("all its places but both being new (of twelve letters, eleven)");
        // At each of 24 places both words of the second rule are sewn.
        due("four places behind it", ruled("y", "=xxxxxxxxxxxx", "xxxxxxxxxxxx=xxxxxxxxxxxX").net(0, 0), 4);
        due("eight places behind it", ruled("y", "=xxxxxxxxxxxx", "xxxxxxxxxxxX=XXXXXXXXXXXx").net(0, 0), 8);
        isTooGreat(ruled("", "=xxxxxxxxxxxx", "=yyyyyyyyyyyy"));
        isTooGreat(ruled("xyzxyzxyzxyz", "=xxxxxxxxxxxx", "=yyyyyyyyyyyy"));
    }

    private static void readyBehind20Rounds() {
        says("TOO GREAT, if it .. is not READY behind 20 ROUNDS");
        netIs(ruled("YYyXxX", "xYYXXXYYXyyx=YXXYXXYYXXX", "X=YYxY"), 19, 38, 19);
        netIs(ruled("yyX", "XxYyyxxxx=YXXXXxXX", "y=yyxXXXy"), 22, 44, 20);
        netIs(ruled("YxYyXxY", "xYYXXXYYXyyx=YXXYXXYYXXXX", "X=YYxY"), 22, 44, 20);
        // READY behind 21 ROUNDS, never with more than 22 places.
        isTooGreat(ruled("yX", "XxYyyxxxx=YXXXxXxXX", "y=yyXXXyyY"));
        isTooGreat(ruled("xyXX", "XxYyyxxxx=YXXXxXxXX", "y=yyXXXy"));
        // One place more with each ROUND: 22 behind 20 ROUNDS, and never READY.
        isTooGreat(ruled("x", "xX=xxXX"));
    }

    private static void reads() {
        says("Whether another WORD (or the same) is read from BEGIN to END in the NET of a WORD");
        HalfMaps x = new HalfMaps();
        due("no letters, the same", x.reads(0, 0), 1);
        due("no letters, another one", x.reads(0, 3), 1);
        readsIs(x, "x", 0);
        readsIs(x, "xX", 0);
        write(x, 0, "xX");
        readsIs(x, "", 1);
        readsIs(x, "xXxXxXxXxXxX", 1);
        readsIs(x, "x", 0);
        readsIs(x, "Xx", 0);
        write(x, 0, "xxxxxxxxxxxx");
        readsIs(x, "xxxxxxxxxxxx", 1);
        readsIs(x, "xxxxxxxxxxx", 0);
        readsIs(x, "", 0);
        x = ruled("", "=xxxxxxxxxxxx");
        readsIs(x, "xxxxxxxxxxxx", 1);
        readsIs(x, "xxxxxxxxxxx", 0);
        readsIs(x, "XXXXXXXXXXXX", 1);
        says("reads: UNKNOWN: both");
        for (int odd : new int[] {-1, 4, 256, MIN, MAX}) {
            due("reads(" + odd + ", 0)", x.reads(odd, 0), UNKNOWN);
            due("reads(0, " + odd + ")", x.reads(0, odd), UNKNOWN);
        }
        says("reads: NONE: it is TOO GREAT");
        x = ruled("x", "xX=xxXX");
        due("the NET of another WORD does not matter", x.reads(1, 0), 0);
        due("reads(0, 0)", x.reads(0, 0), NONE);
        due("reads(0, 1)", x.reads(0, 1), NONE);
    }

    // ---- 5 images

    private static void imageInPlaceOfAnother() {
        says("kept in an IMAGE (0, 1), in place of what was kept there: 1. OUTSIDE");
        HalfMaps x = new HalfMaps();
        for (int odd : new int[] {-1, 2, 256, MIN, MIN + 1, MAX}) {
            due("image(" + odd + ")", x.image(odd), OUTSIDE);
        }
        due("count(8)", x.count(8), 0);
        for (int k = 0; k < 2; k++) {
            x.set(0, 1 + k);
            due("image(" + k + ")", x.image(k), 1);
        }
        x.set(0, 5);
        due("image(0) again", x.image(0), 1);
        x.set(0, 0);
        due("restore(1)", x.restore(1), 1);
        due("of(0, 0)", x.of(0, 0), 2);
        due("restore(0)", x.restore(0), 1);
        due("of(0, 0)", x.of(0, 0), 5);
        says("the IMAGE stays");
        x.set(0, 0);
        due("restore(0)", x.restore(0), 1);
        due("of(0, 0)", x.of(0, 0), 5);
        due("count(8)", x.count(8), 3);
    }

    private static void imageIsWithoutPadAndImages() {
        says("All but THE PAD and IMAGES is as it was when it was kept");
        HalfMaps x = new HalfMaps();
        x.say('x');
        x.image(0);
        due("THE PAD stays with image", x.count(6), 1);
        x.say('y');
        x.image(1);
        due("restore(0)", x.restore(0), 1);
        due("THE PAD stays with restore", x.count(6), 2);
        due("the other IMAGE stays", x.count(8), 3);
        due("word(0)", x.word(0), 2);
        due("restore(1)", x.restore(1), 1);
        due("THE PAD stays empty", x.count(6), 0);
        due("the WORD is as it was", x.count(2), 0);
        for (int i = 0; i < 12; i++) {
            x.say('#');
        }
        due("restore(0)", x.restore(0), 1);
        due("THE PAD stays full", x.say('x'), FULL);
    }

    private static void imageOfAllElse() {
        says("All but THE PAD and IMAGES is kept in an IMAGE");
        HalfMaps x = with("1----", "-2---", "--3--", "---4-", "----0", "01---");
        write(x, 0, "xy");
        write(x, 1, "yx");
        write(x, 2, "z");
        write(x, 3, "xX");
        x.rule(0, 1, 0, 1);
        x.rule(1, 1, 2, 0);
        x.image(1);
        for (int s = 0; s < 6; s++) {
            x.set(s, 0);
        }
        for (int w = 0; w < 4; w++) {
            x.word(w);
        }
        x.rule(0, 1, 0, 1);
        x.rule(1, 0, 0, 0);
        due("restore(1)", x.restore(1), 1);
        String[] maps = {"1----", "-2---", "--3--", "---4-", "----0", "01---"};
        for (int s = 0; s < 6; s++) {
            holds(x, s, maps[s]);
        }
        int[] letters = {2, 2, 1, 2};
        for (int w = 0; w < 4; w++) {
            due("count(" + (2 + w) + ")", x.count(2 + w), letters[w]);
        }
        due("count(7)", x.count(7), 2);
        netIs(x, 4, 5, 1);
        due("reads(0, 2)", x.reads(0, 2), 1);
        due("reads(0, 1)", x.reads(0, 1), 1);
        says("(nor does what is changed later change what is kept)");
        x.set(0, 0);
        write(x, 0, "zzz");
        x.rule(0, 1, 0, 0);
        x.restore(1);
        holds(x, 0, "1----");
        netIs(x, 4, 5, 1);
    }

    private static void restoreOfNothing() {
        says("restore: OUTSIDE");
        HalfMaps x = new HalfMaps();
        for (int round = 0; round < 2; round++) {
            for (int odd : new int[] {-1, 2, 256, MIN, MIN + 1, MAX}) {
                due("restore(" + odd + ")", x.restore(odd), OUTSIDE);
            }
            x.image(round);
        }
        says("restore: STATE: nothing was kept in it");
        for (int kept = 0; kept < 2; kept++) {
            x = new HalfMaps();
            x.image(kept);
            x.set(0, 0);
            due("restore(" + (1 - kept) + ")", x.restore(1 - kept), STATE);
            holds(x, 0, NOTHING);
            due("restore(" + kept + ")", x.restore(kept), 1);
            holds(x, 0, ALL);
        }
    }

    private static void counts() {
        says("How many different MAPS SLOTS hold (what = 0), RANKS of all SLOTS, added (1)");
        HalfMaps x = new HalfMaps();
        due("one, count(0)", x.count(0), 1);
        due("30, count(1)", x.count(1), 30);
        for (int s = 0; s < 6; s++) {
            x.set(s, s);
            due("count(0)", x.count(0), s < 5 ? s + 2 : 6);
            due("count(1)", x.count(1), 5 * (5 - s) + s);
        }
        for (int s = 0; s < 6; s++) {
            x.set(s, 0);
        }
        due("nothing in all", x.count(0), 1);
        due("none", x.count(1), 0);
        says("letters of WORD 0 (2), 1 (3), 2 (4), 3 (5)");
        for (int w = 0; w < 4; w++) {
            due("none, count(" + (2 + w) + ")", x.count(2 + w), 0);
            write(x, w, "xyzxyzxyzxyz".substring(0, 12 - w));
            due("count(" + (2 + w) + ")", x.count(2 + w), 12 - w);
        }
        says("signs of THE PAD (6)");
        for (int i = 0; i <= 13; i++) {
            due("count(6)", x.count(6), Math.min(i, 12));
            x.say('a');
        }
        says("RULES that are told (7)");
        int[][] steps = {{0, 1, 1}, {1, 1, 2}, {1, 1, 2}, {0, 0, 1}, {0, 0, 1}, {1, 0, 0}, {1, 0, 0}, {1, 1, 1}};
        for (int[] step : steps) {
            due("rule", x.rule(step[0], step[1], 0, 0), step[2]);
            due("count(7)", x.count(7), step[2]);
        }
        countOfImages();
    }

    private static void countOfImages() {
        says("which IMAGES are kept (8: 1 the first, 2 the second, added)");
        HalfMaps x = new HalfMaps();
        due("none", x.count(8), 0);
        x.image(1);
        due("the second", x.count(8), 2);
        x.image(1);
        due("the second again", x.count(8), 2);
        x.image(0);
        due("both", x.count(8), 3);
        x = new HalfMaps();
        x.image(0);
        due("the first", x.count(8), 1);
        says("count: OUTSIDE");
        for (int odd : new int[] {-1, 9, 10, 256, MIN, MIN + 2, MAX}) {
            due("count(" + odd + ")", x.count(odd), OUTSIDE);
        }
    }
}
