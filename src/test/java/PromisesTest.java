/** For each promise of the document: ordinary inputs, the edges that it names, wrong inputs. */
public final class PromisesTest {
    private static final int MIN = Integer.MIN_VALUE;
    private static final int MAX = Integer.MAX_VALUE;
    private static final int IDENTITY = 7465;
    private static int wrong = 0;
    private static int looked = 0;
    private static String section = "";

    public static void main(String[] args) {
        newObject();
        set();
        of();
        leads();
        both();
        bothRefused();
        turn();
        below();
        say();
        wipe();
        word();
        value();
        made();
        madeGroups();
        way();
        tree();
        compare();
        rule();
        net();
        netEmptyWords();
        netLimits();
        reads();
        image();
        restore();
        count();
        refusalsChangeNothing();
        manyObjects();
        System.out.println(wrong == 0 ? looked + " answers are as due" : wrong + " answers are not as due");
        if (wrong != 0) {
            System.exit(1);
        }
    }

    private static void due(String call, int got, int want) {
        looked++;
        if (got != want) {
            wrong++;
            System.out.println(section + ": " + call + " answered " + got + ", due is " + want);
        }
    }

    /** The NUMBER of a map: for each point where it leads, '-' for nowhere. */
    private static int map(String leads) {
        int number = 0;
        for (int p = 4; p >= 0; p--) {
            number = number * 6 + (leads.charAt(p) == '-' ? 0 : leads.charAt(p) - '0' + 1);
        }
        return number;
    }

    private static void put(HalfMaps x, int slot, String leads) {
        x.set(slot, map(leads));
    }

    private static void write(HalfMaps x, int word, String letters) {
        x.wipe();
        for (char c : letters.toCharArray()) {
            x.say(c);
        }
        due("word of " + letters, x.word(word), letters.length());
    }

    private static void holds(HalfMaps x, int slot, String leads) {
        due("of(" + slot + ", 0)", x.of(slot, 0), map(leads));
    }

    private static void newObject() {
        section = "1 a new object";
        HalfMaps x = new HalfMaps();
        for (int s = 0; s < 6; s++) {
            due("of", x.of(s, 0), IDENTITY);
        }
        due("count(0)", x.count(0), 1);
        due("count(1)", x.count(1), 30);
        for (int what = 2; what <= 8; what++) {
            due("count(" + what + ")", x.count(what), 0);
        }
        due("restore(0)", x.restore(0), HalfMaps.STATE);
        due("restore(1)", x.restore(1), HalfMaps.STATE);
        due("wipe", x.wipe(), 0);
    }

    private static void set() {
        section = "2 set";
        HalfMaps x = new HalfMaps();
        due("set(0, 0)", x.set(0, 0), IDENTITY);
        due("set(0, 2)", x.set(0, 2), 0);
        due("set(0, 5)", x.set(0, 5), 2);
        due("of(0, 0)", x.of(0, 0), 5);
        due("set(5, 6480)", x.set(5, 6480), IDENTITY);
        due("of(5, 0)", x.of(5, 0), 6480);
        for (int slot : new int[] {-1, 6, MIN, MAX}) {
            due("set(" + slot + ", 0)", x.set(slot, 0), HalfMaps.UNKNOWN);
            due("set(" + slot + ", -1)", x.set(slot, -1), HalfMaps.UNKNOWN);
        }
        for (int number : new int[] {-1, 7776, 7775, 7, 14, 1555, 1297, MIN, MAX}) {
            due("set(0, " + number + ")", x.set(0, number), HalfMaps.OUTSIDE);
        }
        due("of(0, 0)", x.of(0, 0), 5);
        int maps = 0;
        for (int number = -10; number < 7800; number++) {
            maps += new HalfMaps().set(0, number) >= 0 ? 1 : 0;
        }
        due("how many numbers are maps'", maps, 1546);
    }

    private static void of() {
        section = "3 of";
        HalfMaps x = new HalfMaps();
        String[] maps = {"-----", "01234", "0--3-", "1----", "10---", "120--", "12034", "10342", "1234-", "12340", "102-3",
            "103-2", "1-0--"};
        int[] rank = {0, 5, 2, 1, 2, 3, 5, 5, 4, 5, 4, 4, 2};
        int[] idempotent = {1, 1, 1, 0, 0, 0, 0, 0, 0, 0, 0, 0, 0};
        int[] times = {1, 1, 1, 2, 2, 3, 3, 6, 5, 5, 2, 4, 3};
        for (int i = 0; i < maps.length; i++) {
            put(x, 3, maps[i]);
            due(maps[i] + " number", x.of(3, 0), map(maps[i]));
            due(maps[i] + " rank", x.of(3, 1), rank[i]);
            due(maps[i] + " idempotent", x.of(3, 2), idempotent[i]);
            due(maps[i] + " times", x.of(3, 3), times[i]);
        }
        for (int odd : new int[] {-1, 4, MIN, MAX}) {
            due("of(0, " + odd + ")", x.of(0, odd), HalfMaps.OUTSIDE);
        }
        for (int odd : new int[] {-1, 6, MIN, MAX}) {
            due("of(" + odd + ", 9)", x.of(odd, 9), HalfMaps.UNKNOWN);
        }
    }

    private static void leads() {
        section = "4 leads";
        HalfMaps x = new HalfMaps();
        put(x, 2, "4-10-");
        int[] want = {4, HalfMaps.NONE, 1, 0, HalfMaps.NONE};
        for (int p = 0; p < 5; p++) {
            due("leads(2, " + p + ")", x.leads(2, p), want[p]);
            due("leads(5, " + p + ")", x.leads(5, p), p);
        }
        for (int odd : new int[] {-1, 5, MIN, MAX}) {
            due("leads(2, " + odd + ")", x.leads(2, odd), HalfMaps.UNKNOWN);
        }
        for (int odd : new int[] {-1, 6, MIN, MAX}) {
            due("leads(" + odd + ", 0)", x.leads(odd, 0), HalfMaps.UNKNOWN);
        }
    }

    private static void both() {
        section = "5 both";
        HalfMaps x = new HalfMaps();
        put(x, 0, "120-4");
        put(x, 1, "0-31-");
        due("first 0 then 1", x.both(2, 0, 1, 0), 2);
        holds(x, 2, "-30--");
        due("first 1 then 0", x.both(2, 1, 0, 0), 2);
        holds(x, 2, "1--2-");
        put(x, 1, "12-34");
        due("meet", x.both(3, 0, 1, 1), 3);
        holds(x, 3, "12--4");
        put(x, 1, "1--3-");
        due("join", x.both(4, 0, 1, 2), 5);
        holds(x, 4, "12034");
        due("join of one with itself", x.both(1, 1, 1, 2), 2);
        holds(x, 1, "1--3-");
        due("first it then it, into itself", x.both(0, 0, 0, 0), 4);
        holds(x, 0, "201-4");
        put(x, 0, "-----");
        due("meet with nothing", x.both(5, 5, 0, 1), 0);
        holds(x, 5, "-----");
        due("join of nothing", x.both(5, 5, 0, 2), 0);
    }

    private static void bothRefused() {
        section = "5 both, refused";
        HalfMaps x = new HalfMaps();
        put(x, 0, "1----");
        put(x, 1, "2----");
        put(x, 2, "---1-");
        put(x, 3, "0----");
        due("join that leads a point two ways", x.both(4, 0, 1, 2), HalfMaps.STATE);
        due("the other way round", x.both(4, 1, 0, 2), HalfMaps.STATE);
        due("join that leads two points to one", x.both(4, 0, 2, 2), HalfMaps.STATE);
        due("join with 0 to 0", x.both(4, 3, 0, 2), HalfMaps.STATE);
        holds(x, 4, "01234");
        for (int odd : new int[] {-1, 6, MIN, MAX}) {
            due("to", x.both(odd, 0, 1, 9), HalfMaps.UNKNOWN);
            due("one", x.both(0, odd, 1, 2), HalfMaps.UNKNOWN);
            due("other", x.both(0, 1, odd, 0), HalfMaps.UNKNOWN);
        }
        for (int odd : new int[] {-1, 3, MIN, MAX}) {
            due("way", x.both(0, 0, 1, odd), HalfMaps.OUTSIDE);
        }
        holds(x, 0, "1----");
    }

    private static void turn() {
        section = "6 turn";
        HalfMaps x = new HalfMaps();
        put(x, 0, "3-04-");
        due("inverse", x.turn(1, 0, 0), 3);
        holds(x, 1, "2--03");
        due("dom", x.turn(2, 0, 1), 3);
        holds(x, 2, "0-23-");
        due("ran", x.turn(3, 0, 2), 3);
        holds(x, 3, "0--34");
        due("inverse into itself", x.turn(0, 0, 0), 3);
        holds(x, 0, "2--03");
        put(x, 0, "-----");
        due("inverse of nothing", x.turn(4, 0, 0), 0);
        holds(x, 4, "-----");
        for (int odd : new int[] {-1, 6, MIN, MAX}) {
            due("to", x.turn(odd, 0, 9), HalfMaps.UNKNOWN);
            due("from", x.turn(5, odd, 0), HalfMaps.UNKNOWN);
        }
        for (int odd : new int[] {-1, 3, MIN, MAX}) {
            due("way", x.turn(5, 0, odd), HalfMaps.OUTSIDE);
        }
        holds(x, 5, "01234");
    }

    private static void below() {
        section = "7 below";
        HalfMaps x = new HalfMaps();
        put(x, 0, "120--");
        put(x, 1, "1-0--");
        put(x, 2, "1-2--");
        put(x, 3, "-----");
        due("less", x.below(1, 0), 1);
        due("more", x.below(0, 1), 0);
        due("itself", x.below(0, 0), 1);
        due("another way", x.below(2, 0), 0);
        due("nothing", x.below(3, 0), 1);
        due("below nothing", x.below(0, 3), 0);
        due("nothing below nothing", x.below(3, 3), 1);
        for (int odd : new int[] {-1, 6, MIN, MAX}) {
            due("one", x.below(odd, 0), HalfMaps.UNKNOWN);
            due("other", x.below(0, odd), HalfMaps.UNKNOWN);
        }
    }

    private static void say() {
        section = "8 say";
        HalfMaps x = new HalfMaps();
        for (int odd : new int[] {32, 127, 0, -1, MIN, MAX}) {
            due("say(" + odd + ")", x.say(odd), HalfMaps.OUTSIDE);
        }
        due("say(33)", x.say(33), 1);
        due("say(126)", x.say(126), 2);
        for (int i = 3; i <= 12; i++) {
            due("say(120)", x.say(120), i);
        }
        due("say(120), full", x.say(120), HalfMaps.FULL);
        due("say(32), full", x.say(32), HalfMaps.OUTSIDE);
        due("count(6)", x.count(6), 12);
    }

    private static void wipe() {
        section = "9 wipe";
        HalfMaps x = new HalfMaps();
        due("empty", x.wipe(), 0);
        x.say('x');
        x.say('#');
        due("two", x.wipe(), 2);
        due("again", x.wipe(), 0);
        due("count(6)", x.count(6), 0);
        due("say", x.say('y'), 1);
        due("word", x.word(0), 1);
        write(x, 1, "y");
        due("only y is written", x.compare(0, 1), 1);
    }

    private static void word() {
        section = "10 word";
        HalfMaps x = new HalfMaps();
        write(x, 0, "xXyYzZxXyYzZ");
        due("count(2)", x.count(2), 12);
        due("the pad is empty", x.count(6), 0);
        due("none", x.word(0), 0);
        due("count(2)", x.count(2), 0);
        for (char sign = 33; sign <= 126; sign++) {
            boolean isLetter = "xyzXYZ".indexOf(sign) >= 0;
            x.say('x');
            x.say(sign);
            due("word with " + sign, x.word(3), isLetter ? 2 : HalfMaps.FAULT);
            due("the pad behind it", x.wipe(), isLetter ? 0 : 2);
        }
        x.say('a');
        for (int odd : new int[] {-1, 4, MIN, MAX}) {
            due("word(" + odd + ")", x.word(odd), HalfMaps.UNKNOWN);
        }
        due("the pad stays", x.count(6), 1);
        due("the word stays", x.count(5), 2);
    }

    private static void value() {
        section = "11 value";
        HalfMaps x = new HalfMaps();
        put(x, 0, "1234-");
        put(x, 1, "02134");
        put(x, 2, "-0---");
        String[] words = {"x", "X", "y", "z", "Z", "", "xy", "yx", "xxX", "xzZX", "xxxxx", "zxY"};
        String[] maps = {"1234-", "-0123", "02134", "-0---", "1----", "01234", "2134-", "1324-", "123--", "0----", "-----",
            "-2---"};
        for (int i = 0; i < words.length; i++) {
            write(x, 3, words[i]);
            due("value of " + words[i], x.value(4, 3), maps[i].replace("-", "").length());
            holds(x, 4, maps[i]);
        }
        write(x, 3, "xx");
        due("into x itself", x.value(0, 3), 3);
        holds(x, 0, "234--");
        due("as things are then", x.value(0, 3), 1);
        holds(x, 0, "4----");
        for (int odd : new int[] {-1, 6, MIN, MAX}) {
            due("to", x.value(odd, 0), HalfMaps.UNKNOWN);
        }
        for (int odd : new int[] {-1, 4, MIN, MAX}) {
            due("word", x.value(0, odd), HalfMaps.UNKNOWN);
        }
        holds(x, 0, "4----");
    }

    private static void madeIs(HalfMaps x, int n, int... want) {
        for (int what = 0; what < 6; what++) {
            due("made(" + n + ", " + what + ")", x.made(n, what), want[what]);
        }
    }

    private static void made() {
        section = "12 made";
        HalfMaps x = new HalfMaps();
        madeIs(x, 1, 1, 1, 1, 1, 1, 1);
        madeIs(x, 3, 1, 1, 1, 1, 1, 1);
        put(x, 0, "-----");
        madeIs(x, 1, 1, 1, 1, 1, 1, 1);
        madeIs(x, 2, 2, 2, 2, 1, 1, 1);
        put(x, 0, "1234-");
        // Of one chain of five: the idempotents are the runs of one to four points (and nothing),
        // a kind for each length.
        madeIs(x, 1, 55, 15, 5, 1, 0, 1);
        put(x, 0, "12340");
        madeIs(x, 1, 5, 1, 1, 5, 1, 5);
        put(x, 1, "102--");
        put(x, 0, "01---");
        madeIs(x, 2, 4, 2, 2, 2, 1, 2);
        put(x, 0, "12340");
        put(x, 1, "10234");
        put(x, 2, "0123-");
        madeIs(x, 3, 1546, 32, 6, 120, 0, 1);
        madeIs(x, 2, 120, 1, 1, 120, 1, 120);
        for (int odd : new int[] {0, 4, -1, MIN, MAX}) {
            due("made(" + odd + ", 0)", x.made(odd, 0), HalfMaps.OUTSIDE);
        }
        for (int odd : new int[] {6, -1, MIN, MAX}) {
            due("made(1, " + odd + ")", x.made(1, odd), HalfMaps.OUTSIDE);
        }
    }

    private static void madeGroups() {
        section = "12 made, groups and cleanness";
        HalfMaps x = new HalfMaps();
        // x turns 0 1 2, keeps 3, and y keeps 0 1 2: clean, as what keeps 3 alone is not made.
        put(x, 0, "1203-");
        put(x, 1, "012--");
        madeIs(x, 2, 6, 2, 2, 3, 1, 3);
        // With 3 alone the turn has an idempotent below it.
        put(x, 1, "---3-");
        madeIs(x, 2, 4, 2, 2, 3, 0, 1);
        // Letters behind the n-th do not matter.
        put(x, 2, "12340");
        madeIs(x, 2, 4, 2, 2, 3, 0, 1);
        put(x, 0, "1-2--");
        madeIs(x, 1, 5, 3, 2, 1, 0, 1);
        // Two sets of one size that nothing leads to one another are of two kinds.
        put(x, 0, "01---");
        put(x, 1, "--23-");
        madeIs(x, 2, 3, 3, 3, 1, 1, 1);
        put(x, 2, "23---");
        madeIs(x, 3, 5, 3, 2, 1, 0, 1);
    }

    private static void wayIs(HalfMaps x, int n, String leads, String letters) {
        put(x, 5, leads);
        due("way(" + n + ", -1) to " + leads, x.way(n, 5, -1), letters.length());
        for (int i = 0; i < letters.length(); i++) {
            due("way(" + n + ", " + i + ") to " + leads, x.way(n, 5, i), "xXyYzZ".indexOf(letters.charAt(i)));
        }
        due("behind its end", x.way(n, 5, letters.length()), HalfMaps.NONE);
    }

    private static void way() {
        section = "13 way";
        HalfMaps x = new HalfMaps();
        put(x, 0, "1234-");
        wayIs(x, 1, "1234-", "x");
        wayIs(x, 1, "-0123", "X");
        wayIs(x, 1, "0123-", "xX");
        wayIs(x, 1, "-1234", "Xx");
        wayIs(x, 1, "123--", "xxX");
        wayIs(x, 1, "-123-", "xXXx");
        wayIs(x, 1, "-----", "xxxxx");
        put(x, 0, "12340");
        put(x, 1, "10234");
        put(x, 2, "40123");
        wayIs(x, 2, "01234", "xX");
        wayIs(x, 2, "40123", "X");
        wayIs(x, 3, "40123", "X");
        wayIs(x, 3, "23401", "xx");
        wayIs(x, 2, "02134", "Xyx");
        wayIs(x, 2, "10234", "y");
        put(x, 5, "0123-");
        due("not made", x.way(3, 5, -1), HalfMaps.NONE);
        due("not made", x.way(3, 5, 0), HalfMaps.NONE);
        put(x, 5, "10234");
        due("not made of x", x.way(1, 5, -1), HalfMaps.NONE);
        for (int i : new int[] {-2, 1, MIN, MAX}) {
            due("way(2, 1, " + i + ")", x.way(2, 1, i), HalfMaps.NONE);
        }
        for (int odd : new int[] {0, 4, -1, MIN, MAX}) {
            due("way(" + odd + ", 9, 0)", x.way(odd, 9, 0), HalfMaps.OUTSIDE);
        }
        for (int odd : new int[] {-1, 6, MIN, MAX}) {
            due("way(1, " + odd + ", 0)", x.way(1, odd, 0), HalfMaps.UNKNOWN);
        }
    }

    private static void treeIs(HalfMaps x, String letters, int... want) {
        write(x, 2, letters);
        for (int what = 0; what < 4; what++) {
            due("tree of " + letters + ", " + what, x.tree(2, what), want[what]);
        }
    }

    private static void tree() {
        section = "14 tree";
        HalfMaps x = new HalfMaps();
        treeIs(x, "", 1, 0, 0, 0);
        treeIs(x, "x", 2, 1, 1, 2);
        treeIs(x, "xX", 2, 0, 1, 2);
        treeIs(x, "Xx", 2, 0, 1, 2);
        treeIs(x, "xx", 3, 2, 2, 2);
        treeIs(x, "xXXxyY", 4, 0, 1, 3);
        treeIs(x, "xXXxyYYyzZZz", 7, 0, 1, 6);
        treeIs(x, "xyzxyzxyzxyz", 13, 12, 12, 2);
        treeIs(x, "xyYxXyYX", 4, 0, 2, 3);
        treeIs(x, "xxxXXy", 5, 2, 3, 3);
        treeIs(x, "XXxY", 4, 2, 2, 3);
        for (int odd : new int[] {-1, 4, MIN, MAX}) {
            due("tree(" + odd + ", 9)", x.tree(odd, 9), HalfMaps.UNKNOWN);
        }
        for (int odd : new int[] {-1, 4, MIN, MAX}) {
            due("tree(0, " + odd + ")", x.tree(0, odd), HalfMaps.OUTSIDE);
        }
    }

    private static void compareIs(HalfMaps x, String one, String other, int want) {
        write(x, 0, one);
        write(x, 3, other);
        int[] round = {0, 1, 3, 2};
        due(one + " with " + other, x.compare(0, 3), want);
        due(other + " with " + one, x.compare(3, 0), round[want]);
        due(one + " with itself", x.compare(0, 0), 1);
    }

    private static void compare() {
        section = "15 compare";
        HalfMaps x = new HalfMaps();
        compareIs(x, "", "", 1);
        compareIs(x, "xXx", "x", 1);
        compareIs(x, "xXyY", "yYxX", 1);
        compareIs(x, "xX", "", 2);
        compareIs(x, "yYx", "x", 2);
        compareIs(x, "x", "xyY", 3);
        compareIs(x, "xX", "yY", 0);
        compareIs(x, "xX", "Xx", 0);
        compareIs(x, "x", "X", 0);
        compareIs(x, "xxX", "xx", 0);
        compareIs(x, "xx", "x", 0);
        compareIs(x, "xyYX", "xX", 2);
        compareIs(x, "xyYXzZ", "zZxyYX", 1);
        for (int odd : new int[] {-1, 4, MIN, MAX}) {
            due("one", x.compare(odd, 0), HalfMaps.UNKNOWN);
            due("other", x.compare(0, odd), HalfMaps.UNKNOWN);
        }
    }

    private static void rule() {
        section = "16 rule";
        HalfMaps x = new HalfMaps();
        due("taking back what was not told", x.rule(0, 0, 0, 0), 0);
        write(x, 0, "x");
        write(x, 1, "y");
        due("first", x.rule(1, 1, 0, 1), 1);
        due("first again", x.rule(1, 1, 0, 1), 1);
        due("second", x.rule(0, 1, 2, 2), 2);
        due("taken back", x.rule(0, 0, MIN, MAX), 1);
        // The words are kept as they were when the rule was told.
        write(x, 1, "zz");
        due("net(0, 0)", x.net(0, 0), 2);
        due("net(0, 1)", x.net(0, 1), 2);
        due("taken back", x.rule(1, 0, -1, 4), 0);
        due("net(0, 1)", x.net(0, 1), 1);
        for (int odd : new int[] {-1, 2, MIN, MAX}) {
            due("rule", x.rule(odd, 1, 9, 9), HalfMaps.OUTSIDE);
            due("rule, taken back", x.rule(odd, 0, 0, 0), HalfMaps.OUTSIDE);
            due("is", x.rule(0, odd, 9, 9), HalfMaps.OUTSIDE);
        }
        for (int odd : new int[] {-1, 4, MIN, MAX}) {
            due("one", x.rule(0, 1, odd, 0), HalfMaps.UNKNOWN);
            due("other", x.rule(0, 1, 0, odd), HalfMaps.UNKNOWN);
        }
        due("count(7)", x.count(7), 0);
    }

    /** The net of a word under rules "a=b", "c=d" (or none): places, joints, rounds; or NONE for all. */
    private static void netIs(String letters, String first, String second, int... want) {
        HalfMaps x = new HalfMaps();
        tell(x, 0, first);
        tell(x, 1, second);
        write(x, 0, letters);
        for (int what = 0; what < 3; what++) {
            int answer = want.length == 1 ? want[0] : want[what];
            due("net of " + letters + " under " + first + " " + second + ", " + what, x.net(0, what), answer);
        }
        due("it reads itself", x.reads(0, 0), want.length == 1 ? HalfMaps.NONE : 1);
    }

    private static void tell(HalfMaps x, int rule, String text) {
        if (text.isEmpty()) {
            return;
        }
        int is = text.indexOf('=');
        write(x, 2, text.substring(0, is));
        write(x, 3, text.substring(is + 1));
        x.rule(rule, 1, 2, 3);
    }

    private static void net() {
        section = "17 net";
        netIs("", "", "", 1, 0, 0);
        netIs("xX", "", "", 2, 1, 0);
        netIs("xyzxyzxyzxyz", "", "", 13, 12, 0);
        netIs("xXXxyY", "", "", 4, 3, 0);
        netIs("x", "x=y", "", 2, 2, 1);
        netIs("x", "y=x", "", 2, 2, 1);
        netIs("x", "x=y", "y=z", 2, 3, 2);
        netIs("x", "y=z", "x=y", 2, 3, 2);
        netIs("x", "y=z", "", 2, 1, 0);
        netIs("x", "x=x", "", 2, 1, 0);
        netIs("xy", "xy=yx", "", 4, 4, 1);
        netIs("xxy", "xy=yx", "", 6, 7, 2);
        netIs("Xyyy", "xy=yx", "", 5, 4, 0);
        netIs("Yxxx", "xy=yx", "", 5, 4, 0);
        netIs("xyyy", "xy=yx", "", 8, 10, 3);
        netIs("x", "x=yzy", "", 4, 4, 1);
        netIs("x", "x=xx", "", 1, 1, 1);
        netIs("x", "x=xxx", "", 2, 2, 1);
        netIs("x", "xX=Xx", "", HalfMaps.NONE);
        netIs("xy", "x=Y", "", 2, 2, 1);
        for (int odd : new int[] {-1, 4, MIN, MAX}) {
            due("net(" + odd + ", 9)", new HalfMaps().net(odd, 9), HalfMaps.UNKNOWN);
        }
        for (int odd : new int[] {-1, 3, MIN, MAX}) {
            due("net(0, " + odd + ")", new HalfMaps().net(0, odd), HalfMaps.OUTSIDE);
        }
    }

    private static void netEmptyWords() {
        section = "17 net, words without letters";
        netIs("", "=", "", 1, 0, 0);
        netIs("xyz", "=", "=", 4, 3, 0);
        netIs("", "=x", "", 1, 1, 1);
        netIs("", "x=", "", 1, 1, 1);
        netIs("xxxx", "x=", "", 1, 1, 1);
        netIs("xyx", "x=", "", 2, 3, 1);
        netIs("", "=xxxxxxxxxxxx", "", 12, 12, 1);
        netIs("xxxxxx", "xxxx=", "", 4, 4, 1);
        netIs("y", "=xxx", "", 6, 7, 1);
        netIs("", "=xX", "", HalfMaps.NONE);
        netIs("x", "=x", "=y", 1, 2, 1);
        netIs("", "=xxx", "x=y", 3, 6, 2);
    }

    private static void netLimits() {
        section = "17 net, limits";
        // A new place behind each of 11 or 12 places: 24 and 25 places behind one round.
        netIs("xxxxxxxxxxxY", "xX=xyYX", "", 24, 23, 1);
        netIs("xxxxxxxxxxxx", "xX=xyYX", "", HalfMaps.NONE);
        // One place more with each round: 22 places behind 20 rounds, but not ready.
        netIs("x", "xX=xxXX", "", HalfMaps.NONE);
        // Ready behind 20 and behind 21 rounds, with never more than 24 places.
        netIs("yyX", "XxYyyxxxx=YXXXXxXX", "y=yyxXXXy", 22, 44, 20);
        netIs("YxYyXxY", "xYYXXXYYXyyx=YXXYXXYYXXXX", "X=YYxY", 22, 44, 20);
        netIs("YYyXxX", "xYYXXXYYXyyx=YXXYXXYYXXX", "X=YYxY", 19, 38, 19);
        netIs("yX", "XxYyyxxxx=YXXXxXxXX", "y=yyXXXyyY", HalfMaps.NONE);
        netIs("xyXX", "XxYyyxxxx=YXXXxXxXX", "y=yyXXXy", HalfMaps.NONE);
    }

    private static void readsIs(String letters, String rule, String other, int want) {
        HalfMaps x = new HalfMaps();
        tell(x, 1, rule);
        write(x, 1, letters);
        write(x, 0, other);
        due(other + " in the net of " + letters + " under " + rule, x.reads(1, 0), want);
    }

    private static void reads() {
        section = "18 reads";
        readsIs("x", "", "x", 1);
        readsIs("x", "", "xXx", 1);
        readsIs("x", "", "xX", 0);
        readsIs("x", "", "y", 0);
        readsIs("x", "", "", 0);
        readsIs("xX", "", "", 1);
        readsIs("xX", "", "yY", 0);
        readsIs("x", "x=y", "y", 1);
        readsIs("x", "x=y", "xYx", 1);
        readsIs("x", "x=y", "yy", 0);
        readsIs("xy", "xy=yx", "yx", 1);
        readsIs("", "=xxx", "xxxxxx", 1);
        readsIs("", "=xxx", "xxxx", 0);
        readsIs("x", "=xxx", "XX", 1);
        readsIs("x", "xX=xxXX", "x", HalfMaps.NONE);
        for (int odd : new int[] {-1, 4, MIN, MAX}) {
            due("word", new HalfMaps().reads(odd, 0), HalfMaps.UNKNOWN);
            due("other", new HalfMaps().reads(0, odd), HalfMaps.UNKNOWN);
        }
    }

    private static void image() {
        section = "19 image";
        HalfMaps x = new HalfMaps();
        for (int odd : new int[] {-1, 2, MIN, MAX}) {
            due("image(" + odd + ")", x.image(odd), HalfMaps.OUTSIDE);
        }
        due("count(8)", x.count(8), 0);
        due("image(1)", x.image(1), 1);
        due("count(8)", x.count(8), 2);
        due("image(0)", x.image(0), 1);
        due("count(8)", x.count(8), 3);
        x.set(0, 2);
        due("image(0) in its place", x.image(0), 1);
        x.set(0, 3);
        due("restore(0)", x.restore(0), 1);
        due("of(0, 0)", x.of(0, 0), 2);
        due("restore(1)", x.restore(1), 1);
        due("of(0, 0)", x.of(0, 0), IDENTITY);
        due("count(8)", x.count(8), 3);
    }

    private static void restore() {
        section = "20 restore";
        HalfMaps x = new HalfMaps();
        for (int odd : new int[] {-1, 2, MIN, MAX}) {
            due("restore(" + odd + ")", x.restore(odd), HalfMaps.OUTSIDE);
        }
        put(x, 0, "1234-");
        put(x, 5, "0----");
        write(x, 0, "xx");
        write(x, 3, "yxz");
        x.rule(1, 1, 0, 3);
        x.say('z');
        x.image(0);
        for (int round = 0; round < 2; round++) {
            due("restore(1)", x.restore(1), HalfMaps.STATE);
            put(x, 0, "-----");
            put(x, 5, "1----");
            due("made is as it is", x.made(1, 0), 1);
            write(x, 0, "zzzzz");
            write(x, 1, "z");
            write(x, 3, "");
            x.rule(0, 1, 1, 3);
            x.rule(1, 0, 0, 0);
            x.say('#');
            x.say('#');
            due("restore(0)", x.restore(0), 1);
            due("the pad stays", x.count(6), 2);
            holds(x, 0, "1234-");
            holds(x, 5, "0----");
            due("made is as it was", x.made(1, 0), 55);
            due("word 0", x.count(2), 2);
            due("word 1", x.count(3), 0);
            due("word 3", x.count(5), 3);
            due("rules", x.count(7), 1);
            due("the net as it was", x.net(0, 0), 5);
            due("which images", x.count(8), 1);
        }
        write(x, 1, "xx");
        x.rule(1, 1, 1, 2);
        due("told anew", x.net(0, 0), 2);
        x.restore(0);
        due("the words of the rule as they were", x.net(0, 0), 5);
        write(x, 1, "xy");
        x.rule(1, 1, 3, 1);
        x.restore(0);
        due("the words of the rule as they were", x.net(0, 0), 5);
        due("taken back behind restore", x.rule(1, 0, 0, 0), 0);
        due("the rule that was kept is the second", x.restore(0) + x.rule(0, 0, 0, 0), 2);
    }

    private static void count() {
        section = "21 count";
        HalfMaps x = new HalfMaps();
        put(x, 0, "1----");
        put(x, 1, "1----");
        put(x, 2, "-----");
        put(x, 5, "123--");
        due("count(0)", x.count(0), 4);
        due("count(1)", x.count(1), 1 + 1 + 0 + 5 + 5 + 3);
        put(x, 3, "01---");
        due("count(0)", x.count(0), 5);
        put(x, 4, "012--");
        due("count(0), all six", x.count(0), 5);
        put(x, 0, "---4-");
        due("count(0), all six", x.count(0), 6);
        write(x, 0, "x");
        write(x, 1, "xy");
        write(x, 2, "xyz");
        write(x, 3, "xyzZ");
        x.say('!');
        for (int w = 0; w < 4; w++) {
            due("letters of " + w, x.count(2 + w), w + 1);
        }
        due("count(6)", x.count(6), 1);
        x.rule(1, 1, 0, 1);
        due("count(7)", x.count(7), 1);
        x.rule(0, 1, 0, 1);
        due("count(7)", x.count(7), 2);
        x.image(0);
        due("count(8)", x.count(8), 1);
        for (int odd : new int[] {-1, 9, MIN, MAX}) {
            due("count(" + odd + ")", x.count(odd), HalfMaps.OUTSIDE);
        }
    }

    private static void refusalsChangeNothing() {
        section = "what is refused changes nothing";
        HalfMaps x = new HalfMaps();
        put(x, 0, "1----");
        put(x, 1, "2----");
        write(x, 0, "x");
        x.rule(0, 1, 0, 1);
        x.say('a');
        int[] before = counts(x);
        x.set(0, 7);
        x.set(6, 0);
        x.both(0, 0, 1, 2);
        x.both(0, 0, 1, 3);
        x.turn(0, 1, 3);
        x.say(32);
        x.word(0);
        x.word(4);
        x.value(0, 4);
        x.rule(0, 2, 1, 1);
        x.rule(0, 1, 4, 1);
        x.image(2);
        x.restore(1);
        int[] behind = counts(x);
        for (int i = 0; i < before.length; i++) {
            due("state " + i, behind[i], before[i]);
        }
    }

    private static int[] counts(HalfMaps x) {
        int[] all = new int[9 + 6 + 2];
        for (int what = 0; what < 9; what++) {
            all[what] = x.count(what);
        }
        for (int s = 0; s < 6; s++) {
            all[9 + s] = x.of(s, 0);
        }
        all[15] = x.net(0, 0);
        all[16] = x.net(0, 1);
        return all;
    }

    private static void manyObjects() {
        section = "objects do not share anything";
        HalfMaps a = new HalfMaps();
        HalfMaps b = new HalfMaps();
        a.set(0, 2);
        a.say('x');
        a.word(0);
        a.rule(0, 1, 0, 1);
        a.image(0);
        due("slot", b.of(0, 0), IDENTITY);
        due("word", b.count(2), 0);
        due("rules", b.count(7), 0);
        due("images", b.count(8), 0);
        due("made of a", a.made(1, 0), 5);
        due("made of b", b.made(1, 0), 1);
    }
}
