import java.util.ArrayList;
import java.util.List;

/**
 * Calls that are refused: what they answer at each edge, just outside it and far
 * outside it, which refusal is told where two fit, and that they change nothing.
 */
public final class RefusalsTest {
    private static final int MIN = Integer.MIN_VALUE;
    private static final int MAX = Integer.MAX_VALUE;
    private static final int UNKNOWN = -1, OUTSIDE = -2, STATE = -3, FULL = -4, NONE = -6, FAULT = -7;
    private static final int MOST_CALLS = 512;
    private static final int CALLS_AT_ONCE = 100;
    private static final int IDENTITY = 7465;
    private static final int NEW = 0, RICH = 1, FULL_PAD = 2;
    private static final int[] SETUPS = {NEW, RICH, FULL_PAD};

    /** One argument: what is told if it is not low to high. */
    private record Range(int refusal, int low, int high) {
    }

    /** A call: its refusals in the order in which they are told, its arguments, whether it only asks. */
    private record Call(String name, int[] order, Range[] ranges, boolean asks) {
    }

    private static final Range SLOT = new Range(UNKNOWN, 0, 5);
    private static final Range POINT = new Range(UNKNOWN, 0, 4);
    private static final Range WORD = new Range(UNKNOWN, 0, 3);
    private static final Range NUMBER = new Range(OUTSIDE, 0, IDENTITY);
    private static final Range ANY = new Range(0, MIN, MAX);
    private static final int[] UNKNOWN_FIRST = {UNKNOWN, OUTSIDE};
    private static final int[] OUTSIDE_FIRST = {OUTSIDE, UNKNOWN};

    private static final Call[] CALLS = {
        new Call("set", UNKNOWN_FIRST, new Range[] {SLOT, NUMBER}, false),
        new Call("of", UNKNOWN_FIRST, new Range[] {SLOT, outside(0, 3)}, true),
        new Call("leads", UNKNOWN_FIRST, new Range[] {SLOT, POINT}, true),
        new Call("both", UNKNOWN_FIRST, new Range[] {SLOT, SLOT, SLOT, outside(0, 2)}, false),
        new Call("turn", UNKNOWN_FIRST, new Range[] {SLOT, SLOT, outside(0, 2)}, false),
        new Call("below", UNKNOWN_FIRST, new Range[] {SLOT, SLOT}, true),
        new Call("say", UNKNOWN_FIRST, new Range[] {outside(33, 126)}, false),
        new Call("wipe", UNKNOWN_FIRST, new Range[] {}, false),
        new Call("word", UNKNOWN_FIRST, new Range[] {WORD}, false),
        new Call("value", UNKNOWN_FIRST, new Range[] {SLOT, WORD}, false),
        new Call("made", UNKNOWN_FIRST, new Range[] {outside(1, 3), outside(0, 5)}, true),
        new Call("way", OUTSIDE_FIRST, new Range[] {outside(1, 3), SLOT, ANY}, true),
        new Call("tree", UNKNOWN_FIRST, new Range[] {WORD, outside(0, 3)}, true),
        new Call("compare", UNKNOWN_FIRST, new Range[] {WORD, WORD}, true),
        new Call("rule", OUTSIDE_FIRST, new Range[] {outside(0, 1), outside(0, 1), WORD, WORD}, false),
        new Call("net", UNKNOWN_FIRST, new Range[] {WORD, outside(0, 2)}, true),
        new Call("reads", UNKNOWN_FIRST, new Range[] {WORD, WORD}, true),
        new Call("image", UNKNOWN_FIRST, new Range[] {outside(0, 1)}, false),
        new Call("restore", UNKNOWN_FIRST, new Range[] {outside(0, 1)}, false),
        new Call("count", UNKNOWN_FIRST, new Range[] {outside(0, 8)}, true)};

    private static int wrong = 0;
    private static int looked = 0;

    public static void main(String[] args) {
        theProbeSeesEachChange();
        for (Call call : CALLS) {
            edgesOf(call);
        }
        joinThatIsNone();
        padThatIsFull();
        padWithAnotherSign();
        imageThatIsNotKept();
        firstThatFits();
        noneOnlyWhereNoRefusalFits();
        System.out.println(wrong == 0 ? looked + " answers are as due" : wrong + " answers are not as due");
        if (wrong != 0) {
            System.exit(1);
        }
    }

    private static Range outside(int low, int high) {
        return new Range(OUTSIDE, low, high);
    }

    private static void due(String text, Object got, Object want) {
        looked++;
        if (!got.equals(want)) {
            wrong++;
            System.out.println(text + " answered " + got + ", due is " + want);
        }
    }

    // ---- all edges of all arguments of a call, with one another

    private static void edgesOf(Call call) {
        List<int[]> refused = new ArrayList<>();
        List<int[]> taken = new ArrayList<>();
        for (int[] arguments : allArguments(call, 0, new int[call.ranges.length])) {
            (refusal(call, arguments) == 0 ? taken : refused).add(arguments);
        }
        for (int setup : SETUPS) {
            for (int from = 0; from < refused.size(); from += CALLS_AT_ONCE) {
                areRefused(call, setup, refused.subList(from, Math.min(from + CALLS_AT_ONCE, refused.size())));
            }
            for (int from = 0; call.asks && from < taken.size(); from += CALLS_AT_ONCE) {
                askingChangesNothing(call, setup, taken.subList(from, Math.min(from + CALLS_AT_ONCE, taken.size())));
            }
        }
        for (int[] arguments : taken) {
            int setup = call.name.equals("restore") ? RICH : NEW;
            int answer = setUp(setup).call(call.name, arguments);
            due(text(call.name, arguments) + " is not refused: " + answer, answer >= 0 || answer == NONE, true);
        }
    }

    private static List<int[]> allArguments(Call call, int at, int[] begun) {
        List<int[]> all = new ArrayList<>();
        if (at == call.ranges.length) {
            all.add(begun.clone());
            return all;
        }
        for (int value : edges(call.ranges[at])) {
            begun[at] = value;
            all.addAll(allArguments(call, at + 1, begun));
        }
        return all;
    }

    /** Just inside, just outside, far outside; and what would be inside if only some bits were looked at. */
    private static int[] edges(Range range) {
        if (range == ANY) {
            return new int[] {MIN, -2, -1, 0, 1, MAX};
        }
        if (range == NUMBER) {
            return new int[] {MIN, -1, 0, 1, 5, 6, 7, 14, 1297, 6480, 7465, 7466, 7775, 7776, 65536, MAX};
        }
        return new int[] {MIN, MIN + range.low, range.low - 1, range.low, range.high, range.high + 1, range.low + 256,
            range.low + 65536, MAX};
    }

    /** The refusal that is due for these numbers, or 0. */
    private static int refusal(Call call, int[] arguments) {
        for (int refusal : call.order) {
            for (int i = 0; i < arguments.length; i++) {
                boolean isNoMatter = call.name.equals("rule") && i >= 2 && arguments[1] == 0;
                Range range = call.ranges[i];
                if (range.refusal == refusal && !isNoMatter && !fits(range, arguments[i])) {
                    return refusal;
                }
            }
        }
        return 0;
    }

    private static boolean fits(Range range, int value) {
        return value >= range.low && value <= range.high && (range != NUMBER || value != 7 && value != 14 && value != 1297);
    }

    private static void areRefused(Call call, int setup, List<int[]> all) {
        Run x = setUp(setup);
        for (int[] arguments : all) {
            due(text(call.name, arguments), x.call(call.name, arguments), refusal(call, arguments));
        }
        due("all that is told behind " + call.name + ", refused, setup " + setup, x.probe(), setUp(setup).probe());
    }

    private static void askingChangesNothing(Call call, int setup, List<int[]> all) {
        Run x = setUp(setup);
        for (int[] arguments : all) {
            x.call(call.name, arguments);
        }
        due("all that is told behind asking " + call.name + ", setup " + setup, x.probe(), setUp(setup).probe());
    }

    // ---- refusals that lie in how things are

    /** Two maps lead one point two ways, or two points to one: each of the slots in the part of the one that would hold. */
    private static void joinThatIsNone() {
        String[][] pairs = {{"1----", "2----"}, {"1----", "-1---"}, {"0123-", "----0"}, {"01234", "10---"}, {"----4", "4----"},
            {"0---4", "4---0"}, {"-----", "01234"}, {"0123-", "----4"}, {"1----", "1----"}};
        boolean[] isThere = {false, false, false, false, false, false, true, true, true};
        for (int i = 0; i < pairs.length; i++) {
            for (int to = 0; to < 6; to++) {
                for (int round = 0; round < 2; round++) {
                    Run x = withMaps(pairs[i]);
                    int answer = x.call("both", to, round, 1 - round, 2);
                    due("JOIN of " + pairs[i][0] + " and " + pairs[i][1] + ": " + answer, answer >= 0, isThere[i]);
                    if (!isThere[i]) {
                        due("JOIN of " + pairs[i][0] + " and " + pairs[i][1], answer, STATE);
                        due("all that is told behind it", x.probe(), withMaps(pairs[i]).probe());
                    }
                }
            }
        }
    }

    private static Run withMaps(String[] maps) {
        Run x = setUp(RICH);
        x.call("set", 0, map(maps[0]));
        x.call("set", 1, map(maps[1]));
        return x;
    }

    private static void padThatIsFull() {
        for (int setup : new int[] {NEW, RICH}) {
            for (int sign = 33; sign <= 126; sign++) {
                Run x = padOf(setup, "xyzXYZxyzXYZ");
                due("say(" + sign + ") with 12", x.call("say", sign), FULL);
                due("all that is told behind it", x.probe(), padOf(setup, "xyzXYZxyzXYZ").probe());
            }
            Run x = padOf(setup, "xyzXYZxyzXY");
            due("say with 11", x.call("say", 90), 12);
            due("the twelfth sign is said", x.probe(), padOf(setup, "xyzXYZxyzXYZ").probe());
        }
    }

    private static Run padOf(int setup, String signs) {
        Run x = setUp(setup);
        x.call("wipe");
        for (char sign : signs.toCharArray()) {
            x.call("say", sign);
        }
        return x;
    }

    /** Another sign at each place of a full pad, into each word; it stays on the pad. */
    private static void padWithAnotherSign() {
        for (int at = 0; at < 12; at++) {
            for (char other : new char[] {'!', 'W', '[', 'w', '{', '~', '0'}) {
                String signs = "xyzXYZxyzXYZ".substring(0, at) + other + "xyzXYZxyzXYZ".substring(at + 1);
                Run x = padOf(RICH, signs);
                for (int word = 0; word < 4; word++) {
                    due("word(" + word + ") of " + signs, x.call("word", word), FAULT);
                }
                due("all that is told behind " + signs, x.probe(), padOf(RICH, signs).probe());
            }
        }
        Run alone = padOf(NEW, "#");
        due("another sign alone", alone.call("word", 0), FAULT);
        due("the pad stays", alone.call("wipe"), 1);
        due("without signs", alone.call("word", 0), 0);
    }

    private static void imageThatIsNotKept() {
        Run fresh = setUp(NEW);
        due("restore(0), nothing kept", fresh.call("restore", 0), STATE);
        due("restore(1), nothing kept", fresh.call("restore", 1), STATE);
        due("all that is told behind it", fresh.probe(), setUp(NEW).probe());
        for (int kept = 0; kept < 2; kept++) {
            Run x = withImage(kept);
            due("restore of the other one", x.call("restore", 1 - kept), STATE);
            due("all that is told behind it", x.probe(), withImage(kept).probe());
            due("restore of the one that is kept", withImage(kept).call("restore", kept), 1);
        }
    }

    private static Run withImage(int k) {
        Run x = new Run();
        x.write(0, "xyX");
        x.call("set", 0, map("1----"));
        x.call("image", k);
        x.write(0, "z");
        x.call("rule", 0, 1, 0, 1);
        x.call("set", 0, map("12340"));
        return x;
    }

    // ---- where two refusals fit

    /** Slots 0 and 1 have no JOIN, THE PAD is full and has another sign, nothing is kept, word 0 is TOO GREAT. */
    private static Run allWrong() {
        Run x = new Run();
        x.call("set", 0, map("1----"));
        x.call("set", 1, map("2----"));
        x.call("set", 2, map("-----"));
        x.write(0, "xX");
        x.write(1, "xxXX");
        x.call("rule", 0, 1, 0, 1);
        for (int i = 0; i < 12; i++) {
            x.call("say", '#');
        }
        return x;
    }

    private static void isFirst(String name, int want, int... arguments) {
        Run x = allWrong();
        due(text(name, arguments), x.call(name, arguments), want);
        due("all that is told behind " + text(name, arguments), x.probe(), allWrong().probe());
    }

    private static void firstThatFits() {
        isFirst("set", UNKNOWN, 6, 7776);
        isFirst("set", UNKNOWN, -1, 7);
        isFirst("of", UNKNOWN, 6, 4);
        isFirst("of", UNKNOWN, -1, -1);
        isFirst("leads", UNKNOWN, 6, 5);
        isFirst("both", UNKNOWN, 6, 0, 1, 3);
        isFirst("both", UNKNOWN, 3, -1, 1, 3);
        isFirst("both", UNKNOWN, 3, 0, 6, -1);
        isFirst("both", UNKNOWN, 6, 0, 1, 2);
        isFirst("both", OUTSIDE, 3, 0, 1, 3);
        isFirst("both", STATE, 3, 0, 1, 2);
        isFirst("turn", UNKNOWN, 6, 0, 3);
        isFirst("turn", UNKNOWN, 0, 6, -1);
        isFirst("say", OUTSIDE, 32);
        isFirst("say", OUTSIDE, 127);
        isFirst("say", FULL, 33);
        isFirst("say", FULL, 126);
        isFirst("word", UNKNOWN, 4);
        isFirst("word", UNKNOWN, -1);
        isFirst("word", FAULT, 3);
        isFirst("way", OUTSIDE, 0, 6, 0);
        isFirst("way", OUTSIDE, 4, -1, -2);
        isFirst("way", UNKNOWN, 1, 6, -2);
        isFirst("tree", UNKNOWN, 4, 4);
        isFirst("rule", OUTSIDE, 2, 1, 4, 4);
        isFirst("rule", OUTSIDE, 0, 2, 4, 4);
        isFirst("rule", OUTSIDE, -1, -1, -1, -1);
        isFirst("rule", UNKNOWN, 0, 1, 4, 4);
        isFirst("net", UNKNOWN, 4, 3);
        isFirst("net", UNKNOWN, -1, -1);
        isFirst("restore", OUTSIDE, 2);
        isFirst("restore", OUTSIDE, -1);
        isFirst("restore", STATE, 0);
    }

    private static void noneOnlyWhereNoRefusalFits() {
        isFirst("leads", NONE, 2, 4);
        isFirst("leads", UNKNOWN, 2, 5);
        isFirst("leads", UNKNOWN, 6, 4);
        isFirst("way", NONE, 1, 5, 0);
        isFirst("way", NONE, 1, 5, -1);
        isFirst("way", NONE, 1, 0, -2);
        isFirst("way", OUTSIDE, 0, 5, 0);
        isFirst("way", UNKNOWN, 1, 6, 0);
        isFirst("net", NONE, 0, 2);
        isFirst("net", OUTSIDE, 0, 3);
        isFirst("net", OUTSIDE, 0, -1);
        isFirst("reads", NONE, 0, 3);
        isFirst("reads", UNKNOWN, 0, 4);
        isFirst("reads", UNKNOWN, 4, 0);
        isFirst("both", STATE, 3, 1, 0, 2);
    }

    // ---- how things are, and all that is told of it

    /** If the probe did not see a change, what it says of refused calls would prove nothing. */
    private static void theProbeSeesEachChange() {
        Object[][] changes = {{"set", 3, 2}, {"set", 0, 2}, {"both", 5, 0, 1, 1}, {"turn", 4, 1, 0}, {"say", 'x'}, {"wipe"},
            {"word", 0}, {"word", 3}, {"value", 2, 3}, {"rule", 0, 0, 0, 0}, {"rule", 1, 0, 0, 0}, {"rule", 0, 1, 0, 3},
            {"rule", 1, 1, 3, 0}, {"image", 0}, {"image", 1}, {"restore", 0}, {"restore", 1}};
        for (Object[] change : changes) {
            int[] arguments = new int[change.length - 1];
            for (int i = 0; i < arguments.length; i++) {
                arguments[i] = change[i + 1] instanceof Character sign ? sign : (Integer) change[i + 1];
            }
            Run x = setUp(RICH);
            x.call((String) change[0], arguments);
            String text = text((String) change[0], arguments);
            due("the probe sees " + text, x.probe().equals(setUp(RICH).probe()), false);
        }
    }

    private static Run setUp(int setup) {
        Run x = new Run();
        if (setup == RICH) {
            setUpRich(x);
        } else if (setup == FULL_PAD) {
            x.call("set", 2, 0);
            x.write(3, "xyzxyzxyzxyz");
            x.call("rule", 1, 1, 0, 1);
            x.call("image", 1);
            x.call("set", 4, map("4----"));
            for (int i = 0; i < 12; i++) {
                x.call("say", i == 11 ? '#' : 'y');
            }
        }
        return x;
    }

    private static void setUpRich(Run x) {
        String[] maps = {"1234-", "10234", "-0-4-", "20134", "-----", "4----"};
        for (int s = 0; s < 6; s++) {
            x.call("set", s, map(maps[s]));
        }
        x.write(0, "xy");
        x.write(1, "yx");
        x.call("rule", 0, 1, 0, 1);
        x.call("image", 0);
        x.write(2, "zZx");
        x.write(3, "zx");
        x.call("rule", 1, 1, 1, 3);
        x.call("turn", 3, 3, 0);
        x.call("image", 1);
        x.write(0, "xXyx");
        x.call("set", 4, map("0-2--"));
        x.call("say", 'x');
        x.call("say", 'Y');
        x.call("say", 'z');
    }

    private static int map(String leads) {
        int number = 0;
        for (int p = 4; p >= 0; p--) {
            number = number * 6 + (leads.charAt(p) == '-' ? 0 : leads.charAt(p) - '0' + 1);
        }
        return number;
    }

    private static String text(String name, int... arguments) {
        StringBuilder text = new StringBuilder(name).append("(");
        for (int i = 0; i < arguments.length; i++) {
            text.append(i == 0 ? "" : ", ").append(arguments[i]);
        }
        return text.append(")").toString();
    }

    /** An object whose calls are counted, as nothing is promised behind the 512th. */
    private static final class Run {
        private final HalfMaps x = new HalfMaps();
        private int calls = 0;

        int call(String name, int... c) {
            calls++;
            if (calls > MOST_CALLS) {
                throw new IllegalStateException("the test makes too many calls");
            }
            switch (name) {
                case "set": return x.set(c[0], c[1]);
                case "of": return x.of(c[0], c[1]);
                case "leads": return x.leads(c[0], c[1]);
                case "both": return x.both(c[0], c[1], c[2], c[3]);
                case "turn": return x.turn(c[0], c[1], c[2]);
                case "below": return x.below(c[0], c[1]);
                case "say": return x.say(c[0]);
                case "wipe": return x.wipe();
                case "word": return x.word(c[0]);
                case "value": return x.value(c[0], c[1]);
                case "made": return x.made(c[0], c[1]);
                case "way": return x.way(c[0], c[1], c[2]);
                case "tree": return x.tree(c[0], c[1]);
                case "compare": return x.compare(c[0], c[1]);
                case "rule": return x.rule(c[0], c[1], c[2], c[3]);
                case "net": return x.net(c[0], c[1]);
                case "reads": return x.reads(c[0], c[1]);
                case "image": return x.image(c[0]);
                case "restore": return x.restore(c[0]);
                case "count": return x.count(c[0]);
                default: throw new IllegalArgumentException(name);
            }
        }

        void write(int word, String letters) {
            for (char letter : letters.toCharArray()) {
                call("say", letter);
            }
            call("word", word);
        }

        /** All that can be told of the object; the object is spent then. */
        List<Integer> probe() {
            List<Integer> told = new ArrayList<>();
            for (int what = 0; what <= 8; what++) {
                told.add(call("count", what));
            }
            look(told);
            told.add(call("word", 3));
            told.add(call("wipe"));
            for (int k = 0; k < 2; k++) {
                look(told);
                told.add(call("restore", k));
            }
            look(told);
            return told;
        }

        private void look(List<Integer> told) {
            for (int slot = 0; slot < 6; slot++) {
                told.add(call("of", slot, 0));
            }
            told.add(call("count", 7));
            for (int word = 0; word < 4; word++) {
                told.add(call("count", 2 + word));
                told.add(call("tree", word, 0));
                told.add(call("tree", word, 1));
                for (int what = 0; what < 3; what++) {
                    told.add(call("net", word, what));
                }
                for (int other = 0; other < 4; other++) {
                    told.add(call("reads", word, other));
                }
                told.add(call("compare", word, (word + 1) % 4));
            }
            for (int word = 0; word < 4; word++) {
                call("value", 5, word);
                told.add(call("of", 5, 0));
            }
        }
    }
}
