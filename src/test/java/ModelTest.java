import java.util.ArrayList;
import java.util.Arrays;
import java.util.HashMap;
import java.util.HashSet;
import java.util.List;
import java.util.Map;
import java.util.Random;
import java.util.Set;
import java.util.TreeMap;
import java.util.TreeSet;

/**
 * Random runs (from fixed seeds) whose answers are compared with a second, plain
 * program that follows the document's words one by one, without regard to speed.
 */
public final class ModelTest {
    private static final int RUNS = 600;
    private static final int CALLS = 500;
    private static final String[] NAMES = {"set", "of", "leads", "both", "turn", "below", "say", "wipe", "word",
        "value", "made", "way", "tree", "compare", "rule", "net", "reads", "image", "restore", "count"};
    private static final int[] ARGUMENTS = {2, 2, 2, 4, 3, 2, 1, 0, 1, 2, 2, 3, 2, 2, 4, 2, 2, 1, 1, 1};
    private static final Map<String, Integer> ANSWERS = new TreeMap<>();

    public static void main(String[] args) {
        int wrong = 0;
        for (int run = 0; run < RUNS && wrong == 0; run++) {
            wrong += playRun(run);
        }
        if (System.getProperty("show") != null) {
            System.out.println(ANSWERS);
        }
        wrong += missingAnswers();
        System.out.println(wrong == 0 ? "program and model agree" : "program and model differ");
        if (wrong != 0) {
            System.exit(1);
        }
    }

    /** Runs that never meet a kind of answer would prove nothing about it. */
    private static int missingAnswers() {
        String[] due = {"both -3", "say -4", "word -7", "way -6", "net -6", "reads -6", "reads 0", "reads 1", "restore -3",
            "compare 0", "compare 1", "compare 2", "compare 3", "rule -1", "rule -2", "rule 0", "rule 1", "rule 2"};
        int missing = 0;
        for (String answer : due) {
            if (!ANSWERS.containsKey(answer)) {
                System.out.println("no run met: " + answer);
                missing++;
            }
        }
        return missing;
    }

    private static int playRun(int run) {
        Random random = new Random(run);
        HalfMaps program = new HalfMaps();
        Model model = new Model();
        List<String> told = new ArrayList<>();
        List<int[]> plan = new ArrayList<>();
        for (int i = 0; i < CALLS; i++) {
            while (plan.isEmpty()) {
                planCalls(plan, random, run);
            }
            int[] call = plan.remove(0);
            int got = program(program, call);
            int due = model.call(call);
            String text = NAMES[call[0]] + Arrays.toString(Arrays.copyOfRange(call, 1, call.length));
            told.add(text + " = " + got);
            ANSWERS.merge(NAMES[call[0]] + " " + got, 1, Integer::sum);
            if (got != due) {
                System.out.println("run " + run + ", due is " + due + " at the end of: " + told);
                return 1;
            }
        }
        return 0;
    }

    private static void planCalls(List<int[]> plan, Random random, int run) {
        int kind = random.nextInt(10);
        if (run % 3 == 1 && kind < 5) {
            planNet(plan, random);
        } else if (kind < 3) {
            planWord(plan, random, run);
        } else if (kind == 3) {
            plan.add(new int[] {0, random.nextInt(6), randomMap(random)});
        } else if (kind == 4 && random.nextInt(2) == 0) {
            plan.add(new int[] {14, random.nextInt(2), 1, random.nextInt(4), random.nextInt(4)});
        } else {
            planAny(plan, random);
        }
    }

    private static void planWord(List<int[]> plan, Random random, int run) {
        if (random.nextInt(4) != 0) {
            plan.add(new int[] {7});
        }
        int most = random.nextInt(3) == 0 ? 13 : run % 3 == 0 ? 3 : 5;
        int length = random.nextInt(most);
        int letters = 2 * (1 + random.nextInt(3));
        for (int i = 0; i < length; i++) {
            int sign = random.nextInt(60) == 0 ? 33 + random.nextInt(94) : "xXyYzZ".charAt(random.nextInt(letters));
            plan.add(new int[] {6, sign});
        }
        plan.add(new int[] {8, random.nextInt(4)});
    }

    /** Two rules of four words, one of which is then written anew and has its net looked at. */
    private static void planNet(List<int[]> plan, Random random) {
        int most = 1 + random.nextInt(random.nextInt(3) == 0 ? 12 : 5);
        int letters = 2 * (1 + random.nextInt(3));
        for (int w = 0; w < 4; w++) {
            planLetters(plan, random, w, random.nextInt(most + 1), letters);
        }
        plan.add(new int[] {14, 0, 1, 0, 1});
        plan.add(new int[] {14, 1, random.nextInt(3) == 0 ? 0 : 1, 2, 3});
        planLetters(plan, random, random.nextInt(4), random.nextInt(13), letters);
        for (int w = 0; w < 4; w++) {
            for (int what = 0; what < 3; what++) {
                plan.add(new int[] {15, w, what});
            }
            plan.add(new int[] {16, w, random.nextInt(4)});
        }
    }

    private static void planLetters(List<int[]> plan, Random random, int word, int length, int letters) {
        plan.add(new int[] {7});
        for (int i = 0; i < length; i++) {
            plan.add(new int[] {6, "xXyYzZ".charAt(random.nextInt(letters))});
        }
        plan.add(new int[] {8, word});
    }

    private static int randomMap(Random random) {
        List<Integer> targets = new ArrayList<>(List.of(1, 2, 3, 4, 5));
        int holes = random.nextInt(3) == 0 ? 0 : random.nextInt(6);
        int number = 0;
        for (int p = 0, power = 1; p < 5; p++, power *= 6) {
            int target = targets.remove(random.nextInt(targets.size()));
            boolean isLed = random.nextInt(5) >= holes;
            number += isLed ? target * power : 0;
        }
        return number;
    }

    private static void planAny(List<int[]> plan, Random random) {
        int which = random.nextInt(NAMES.length);
        if (which >= 17 && which < 19 && random.nextInt(4) != 0) {
            return;
        }
        int[] call = new int[1 + ARGUMENTS[which]];
        call[0] = which;
        for (int i = 1; i < call.length; i++) {
            call[i] = argument(which, i, random);
        }
        plan.add(call);
    }

    private static int argument(int which, int i, Random random) {
        if (random.nextInt(40) == 0) {
            int[] odd = {-1, -2, Integer.MIN_VALUE, Integer.MAX_VALUE, 5, 6, 7, 9, 100};
            return odd[random.nextInt(odd.length)];
        }
        switch (NAMES[which]) {
            case "set":
                return i == 1 ? random.nextInt(6) : random.nextInt(7900) - 50;
            case "say":
                return 28 + random.nextInt(103);
            case "made":
                return i == 1 ? 1 + random.nextInt(3) : random.nextInt(6);
            case "way":
                return i == 1 ? 1 + random.nextInt(3) : i == 2 ? random.nextInt(6) : random.nextInt(6) - 2;
            case "count":
                return random.nextInt(10);
            case "rule":
                return i <= 2 ? random.nextInt(2) : random.nextInt(4);
            default:
                return random.nextInt(5);
        }
    }

    private static int program(HalfMaps x, int[] c) {
        switch (NAMES[c[0]]) {
            case "set": return x.set(c[1], c[2]);
            case "of": return x.of(c[1], c[2]);
            case "leads": return x.leads(c[1], c[2]);
            case "both": return x.both(c[1], c[2], c[3], c[4]);
            case "turn": return x.turn(c[1], c[2], c[3]);
            case "below": return x.below(c[1], c[2]);
            case "say": return x.say(c[1]);
            case "wipe": return x.wipe();
            case "word": return x.word(c[1]);
            case "value": return x.value(c[1], c[2]);
            case "made": return x.made(c[1], c[2]);
            case "way": return x.way(c[1], c[2], c[3]);
            case "tree": return x.tree(c[1], c[2]);
            case "compare": return x.compare(c[1], c[2]);
            case "rule": return x.rule(c[1], c[2], c[3], c[4]);
            case "net": return x.net(c[1], c[2]);
            case "reads": return x.reads(c[1], c[2]);
            case "image": return x.image(c[1]);
            case "restore": return x.restore(c[1]);
            default: return x.count(c[1]);
        }
    }

    /** A map is a TreeMap of points here, a word a text, a rule two texts. */
    private static final class Model {
        private List<TreeMap<Integer, Integer>> slots = new ArrayList<>();
        private String[] words = {"", "", "", ""};
        private String[][] rules = new String[2][];
        private String pad = "";
        private final Object[][] images = new Object[2][];

        Model() {
            for (int s = 0; s < 6; s++) {
                slots.add(identity());
            }
        }

        static TreeMap<Integer, Integer> identity() {
            TreeMap<Integer, Integer> map = new TreeMap<>();
            for (int p = 0; p < 5; p++) {
                map.put(p, p);
            }
            return map;
        }

        int call(int[] c) {
            switch (NAMES[c[0]]) {
                case "set": return set(c[1], c[2]);
                case "of": return of(c[1], c[2]);
                case "leads": return !slot(c[1]) || c[2] < 0 || c[2] > 4 ? -1 : slots.get(c[1]).getOrDefault(c[2], -6);
                case "both": return both(c[1], c[2], c[3], c[4]);
                case "turn": return turn(c[1], c[2], c[3]);
                case "below": return !slot(c[1]) || !slot(c[2]) ? -1 : one(isBelow(slots.get(c[1]), slots.get(c[2])));
                case "say": return say(c[1]);
                case "wipe": return wipe();
                case "word": return word(c[1]);
                case "value": return !slot(c[1]) || !known(c[2]) ? -1 : put(c[1], value(words[c[2]]));
                case "made": return made(c[1], c[2]);
                case "way": return way(c[1], c[2], c[3]);
                case "tree": return tree(c[1], c[2]);
                case "compare": return compare(c[1], c[2]);
                case "rule": return rule(c[1], c[2], c[3], c[4]);
                case "net": return net(c[1], c[2]);
                case "reads": return reads(c[1], c[2]);
                case "image": return image(c[1]);
                case "restore": return restore(c[1]);
                default: return count(c[1]);
            }
        }

        static boolean slot(int s) {
            return s >= 0 && s <= 5;
        }

        static boolean known(int w) {
            return w >= 0 && w <= 3;
        }

        static int one(boolean b) {
            return b ? 1 : 0;
        }

        static int number(TreeMap<Integer, Integer> map) {
            int sum = 0;
            for (int p : map.keySet()) {
                sum += Math.round(Math.pow(6, p)) * (map.get(p) + 1);
            }
            return sum;
        }

        static TreeMap<Integer, Integer> fromNumber(int number) {
            if (number < 0 || number > 7775) {
                return null;
            }
            TreeMap<Integer, Integer> map = new TreeMap<>();
            int rest = number;
            for (int p = 0; p < 5; p++, rest /= 6) {
                if (rest % 6 != 0) {
                    map.put(p, rest % 6 - 1);
                }
            }
            return isMap(map) ? map : null;
        }

        static boolean isMap(TreeMap<Integer, Integer> map) {
            return new HashSet<>(map.values()).size() == map.size();
        }

        static boolean isIdempotent(TreeMap<Integer, Integer> map) {
            return map.keySet().stream().allMatch(p -> map.get(p).equals(p));
        }

        static TreeMap<Integer, Integer> then(TreeMap<Integer, Integer> a, TreeMap<Integer, Integer> b) {
            TreeMap<Integer, Integer> map = new TreeMap<>();
            a.forEach((p, q) -> {
                if (b.containsKey(q)) {
                    map.put(p, b.get(q));
                }
            });
            return map;
        }

        static TreeMap<Integer, Integer> inverse(TreeMap<Integer, Integer> a) {
            TreeMap<Integer, Integer> map = new TreeMap<>();
            a.forEach((p, q) -> map.put(q, p));
            return map;
        }

        static TreeMap<Integer, Integer> on(Iterable<Integer> points) {
            TreeMap<Integer, Integer> map = new TreeMap<>();
            points.forEach(p -> map.put(p, p));
            return map;
        }

        static boolean isBelow(TreeMap<Integer, Integer> a, TreeMap<Integer, Integer> b) {
            return b.entrySet().containsAll(a.entrySet());
        }

        int put(int slot, TreeMap<Integer, Integer> map) {
            slots.set(slot, map);
            return map.size();
        }

        int set(int slot, int number) {
            if (!slot(slot)) {
                return -1;
            }
            TreeMap<Integer, Integer> map = fromNumber(number);
            if (map == null) {
                return -2;
            }
            return number(slots.set(slot, map));
        }

        int of(int slot, int what) {
            if (!slot(slot)) {
                return -1;
            }
            TreeMap<Integer, Integer> map = slots.get(slot);
            if (what == 3) {
                int times = 1;
                for (TreeMap<Integer, Integer> power = map; !isIdempotent(power); power = then(power, map)) {
                    times++;
                }
                return times;
            }
            return what == 0 ? number(map) : what == 1 ? map.size() : what == 2 ? one(isIdempotent(map)) : -2;
        }

        int both(int to, int one, int other, int way) {
            if (!slot(to) || !slot(one) || !slot(other)) {
                return -1;
            }
            if (way < 0 || way > 2) {
                return -2;
            }
            TreeMap<Integer, Integer> a = slots.get(one);
            TreeMap<Integer, Integer> b = slots.get(other);
            if (way == 0) {
                return put(to, then(a, b));
            }
            TreeMap<Integer, Integer> map = new TreeMap<>(a);
            if (way == 1) {
                map.entrySet().retainAll(b.entrySet());
                return put(to, map);
            }
            map.putAll(b);
            return isBelow(a, map) && isMap(map) ? put(to, map) : -3;
        }

        int turn(int to, int from, int way) {
            if (!slot(to) || !slot(from)) {
                return -1;
            }
            if (way < 0 || way > 2) {
                return -2;
            }
            TreeMap<Integer, Integer> map = slots.get(from);
            return put(to, way == 0 ? inverse(map) : way == 1 ? on(map.keySet()) : on(map.values()));
        }

        int say(int sign) {
            if (sign < 33 || sign > 126) {
                return -2;
            }
            if (pad.length() == 12) {
                return -4;
            }
            pad += (char) sign;
            return pad.length();
        }

        int wipe() {
            int had = pad.length();
            pad = "";
            return had;
        }

        int word(int word) {
            if (!known(word)) {
                return -1;
            }
            if (!pad.matches("[xyzXYZ]*")) {
                return -7;
            }
            words[word] = pad;
            return wipe();
        }

        TreeMap<Integer, Integer> letter(char c) {
            TreeMap<Integer, Integer> map = slots.get(Character.toLowerCase(c) - 'x');
            return Character.isUpperCase(c) ? inverse(map) : map;
        }

        TreeMap<Integer, Integer> value(String word) {
            TreeMap<Integer, Integer> map = identity();
            for (char c : word.toCharArray()) {
                map = then(map, letter(c));
            }
            return map;
        }

        // ---- made

        private String lastKey = "";
        private Map<TreeMap<Integer, Integer>, String> lastWays = null;

        /** Each map with its way, as digits, improved until nothing is improved any more. */
        Map<TreeMap<Integer, Integer>, String> ways(int n) {
            String key = n + " " + slots.subList(0, n);
            if (key.equals(lastKey)) {
                return lastWays;
            }
            Map<TreeMap<Integer, Integer>, String> ways = new HashMap<>();
            for (int i = 0; i < 2 * n; i++) {
                improve(ways, letter("xXyYzZ".charAt(i)), "" + (char) ('0' + i));
            }
            boolean changed = true;
            while (changed) {
                changed = false;
                for (TreeMap<Integer, Integer> map : new ArrayList<>(ways.keySet())) {
                    for (int i = 0; i < 2 * n; i++) {
                        changed |= improve(ways, then(map, letter("xXyYzZ".charAt(i))), ways.get(map) + (char) ('0' + i));
                    }
                }
            }
            lastKey = key;
            lastWays = ways;
            return ways;
        }

        static boolean improve(Map<TreeMap<Integer, Integer>, String> ways, TreeMap<Integer, Integer> map, String way) {
            String old = ways.get(map);
            if (old == null || way.length() < old.length() || way.length() == old.length() && way.compareTo(old) < 0) {
                ways.put(map, way);
                return true;
            }
            return false;
        }

        int made(int n, int what) {
            if (n < 1 || n > 3 || what < 0 || what > 5) {
                return -2;
            }
            Set<TreeMap<Integer, Integer>> made = ways(n).keySet();
            List<TreeMap<Integer, Integer>> idempotents = new ArrayList<>();
            made.stream().filter(Model::isIdempotent).forEach(idempotents::add);
            switch (what) {
                case 0: return made.size();
                case 1: return idempotents.size();
                case 2: return kinds(made, idempotents);
                case 3: return greatestGroup(made, idempotents);
                case 4: return one(isClean(made, idempotents));
                default: return imageGroup(made, idempotents);
            }
        }

        static int kinds(Set<TreeMap<Integer, Integer>> made, List<TreeMap<Integer, Integer>> idempotents) {
            Set<Set<TreeMap<Integer, Integer>>> kinds = new HashSet<>();
            for (TreeMap<Integer, Integer> e : idempotents) {
                Set<TreeMap<Integer, Integer>> kind = new HashSet<>();
                for (TreeMap<Integer, Integer> m : made) {
                    if (on(m.keySet()).equals(e)) {
                        kind.add(on(m.values()));
                    }
                }
                kinds.add(kind);
            }
            return kinds.size();
        }

        static int greatestGroup(Set<TreeMap<Integer, Integer>> made, List<TreeMap<Integer, Integer>> idempotents) {
            int greatest = 0;
            for (TreeMap<Integer, Integer> e : idempotents) {
                int group = 0;
                for (TreeMap<Integer, Integer> m : made) {
                    group += one(on(m.keySet()).equals(e) && on(m.values()).equals(e));
                }
                greatest = Math.max(greatest, group);
            }
            return greatest;
        }

        static boolean isClean(Set<TreeMap<Integer, Integer>> made, List<TreeMap<Integer, Integer>> idempotents) {
            for (TreeMap<Integer, Integer> m : made) {
                if (!isIdempotent(m) && idempotents.stream().anyMatch(e -> isBelow(e, m))) {
                    return false;
                }
            }
            return true;
        }

        static int imageGroup(Set<TreeMap<Integer, Integer>> made, List<TreeMap<Integer, Integer>> idempotents) {
            TreeMap<Integer, Integer> core = identity();
            for (TreeMap<Integer, Integer> e : idempotents) {
                core = then(core, e);
            }
            Set<TreeMap<Integer, Integer>> different = new HashSet<>();
            for (TreeMap<Integer, Integer> m : made) {
                different.add(then(core, m));
            }
            return different.size();
        }

        int way(int n, int slot, int i) {
            if (n < 1 || n > 3) {
                return -2;
            }
            if (!slot(slot)) {
                return -1;
            }
            String way = ways(n).get(slots.get(slot));
            if (way == null) {
                return -6;
            }
            return i == -1 ? way.length() : i < 0 || i >= way.length() ? -6 : way.charAt(i) - '0';
        }

        // ---- trees: places are texts none of whose letters undoes the one ahead

        static char undo(char c) {
            return Character.isUpperCase(c) ? Character.toLowerCase(c) : Character.toUpperCase(c);
        }

        static String end(String word) {
            String place = "";
            for (char c : word.toCharArray()) {
                boolean undoes = !place.isEmpty() && place.charAt(place.length() - 1) == undo(c);
                place = undoes ? place.substring(0, place.length() - 1) : place + c;
            }
            return place;
        }

        static Set<String> places(String word) {
            Set<String> places = new TreeSet<>();
            for (int i = 0; i <= word.length(); i++) {
                places.add(end(word.substring(0, i)));
            }
            return places;
        }

        int tree(int word, int what) {
            if (!known(word)) {
                return -1;
            }
            Set<String> places = places(words[word]);
            switch (what) {
                case 0: return places.size();
                case 1: return end(words[word]).length();
                case 2: return places.stream().mapToInt(String::length).max().getAsInt();
                case 3: return (int) places.stream().filter(p -> joined(places, p) == 1).count();
                default: return -2;
            }
        }

        static int joined(Set<String> places, String place) {
            int others = 0;
            for (char c : "xXyYzZ".toCharArray()) {
                others += one(places.contains(end(place + c)));
            }
            return others;
        }

        int compare(int one, int other) {
            if (!known(one) || !known(other)) {
                return -1;
            }
            Set<String> a = places(words[one]);
            Set<String> b = places(words[other]);
            if (!end(words[one]).equals(end(words[other]))) {
                return 0;
            }
            return a.equals(b) ? 1 : a.containsAll(b) ? 2 : b.containsAll(a) ? 3 : 0;
        }

        // ---- nets

        int rule(int rule, int is, int one, int other) {
            if (rule < 0 || rule > 1 || is < 0 || is > 1) {
                return -2;
            }
            if (is == 1 && (!known(one) || !known(other))) {
                return -1;
            }
            rules[rule] = is == 1 ? new String[] {words[one], words[other]} : null;
            return told();
        }

        int told() {
            return one(rules[0] != null) + one(rules[1] != null);
        }

        int net(int word, int what) {
            if (!known(word)) {
                return -1;
            }
            if (what < 0 || what > 2) {
                return -2;
            }
            PlainNet net = new PlainNet(words[word]);
            if (!net.makeReady(rules)) {
                return -6;
            }
            return what == 0 ? net.places.size() : what == 1 ? net.joints.size() : net.rounds;
        }

        int reads(int word, int other) {
            if (!known(word) || !known(other)) {
                return -1;
            }
            PlainNet net = new PlainNet(words[word]);
            if (!net.makeReady(rules)) {
                return -6;
            }
            return one(net.read(net.begin, words[other]) == net.end);
        }

        // ---- images

        int image(int k) {
            if (k < 0 || k > 1) {
                return -2;
            }
            images[k] = new Object[] {new ArrayList<>(slots), words.clone(), rules.clone()};
            return 1;
        }

        @SuppressWarnings("unchecked")
        int restore(int k) {
            if (k < 0 || k > 1) {
                return -2;
            }
            if (images[k] == null) {
                return -3;
            }
            slots = new ArrayList<>((List<TreeMap<Integer, Integer>>) images[k][0]);
            words = ((String[]) images[k][1]).clone();
            rules = ((String[][]) images[k][2]).clone();
            return 1;
        }

        int count(int what) {
            switch (what) {
                case 0: return new HashSet<>(slots).size();
                case 1: return slots.stream().mapToInt(TreeMap::size).sum();
                case 2: case 3: case 4: case 5: return words[what - 2].length();
                case 6: return pad.length();
                case 7: return told();
                case 8: return one(images[0] != null) + 2 * one(images[1] != null);
                default: return -2;
            }
        }
    }

    /** A net as a set of joints {letter, from, to}, folded by looking for two that clash until none do. */
    private static final class PlainNet {
        Set<Integer> places = new TreeSet<>();
        Set<List<Integer>> joints = new HashSet<>();
        int begin;
        int end;
        int rounds = 0;
        private int nextPlace = 0;

        PlainNet(String word) {
            begin = fresh();
            end = begin;
            for (char c : word.toCharArray()) {
                int next = fresh();
                join(end, c, next);
                end = next;
            }
            fold();
        }

        private int fresh() {
            places.add(nextPlace);
            return nextPlace++;
        }

        private void join(int from, char c, int to) {
            int letter = Character.toLowerCase(c) - 'x';
            joints.add(Character.isUpperCase(c) ? List.of(letter, to, from) : List.of(letter, from, to));
        }

        private void become(int going, int staying) {
            Set<List<Integer>> changed = new HashSet<>();
            for (List<Integer> j : joints) {
                int from = j.get(1) == going ? staying : j.get(1);
                int to = j.get(2) == going ? staying : j.get(2);
                changed.add(List.of(j.get(0), from, to));
            }
            joints = changed;
            begin = begin == going ? staying : begin;
            end = end == going ? staying : end;
            if (going != staying) {
                places.remove(going);
            }
        }

        private void fold() {
            int[] clash = clash();
            while (clash != null) {
                become(clash[0], clash[1]);
                clash = clash();
            }
        }

        private int[] clash() {
            Map<List<Integer>, Integer> away = new HashMap<>();
            Map<List<Integer>, Integer> toward = new HashMap<>();
            for (List<Integer> j : joints) {
                Integer to = away.put(List.of(j.get(0), j.get(1)), j.get(2));
                if (to != null && !to.equals(j.get(2))) {
                    return new int[] {to, j.get(2)};
                }
                Integer from = toward.put(List.of(j.get(0), j.get(2)), j.get(1));
                if (from != null && !from.equals(j.get(1))) {
                    return new int[] {from, j.get(1)};
                }
            }
            return null;
        }

        int read(int place, String word) {
            int at = place;
            for (char c : word.toCharArray()) {
                int letter = Character.toLowerCase(c) - 'x';
                int next = -1;
                for (List<Integer> j : joints) {
                    int near = Character.isUpperCase(c) ? j.get(2) : j.get(1);
                    int far = Character.isUpperCase(c) ? j.get(1) : j.get(2);
                    if (j.get(0) == letter && near == at) {
                        next = far;
                    }
                }
                if (next < 0) {
                    return -1;
                }
                at = next;
            }
            return at;
        }

        boolean makeReady(String[][] rules) {
            while (true) {
                List<Object[]> seams = seams(rules);
                if (seams.isEmpty()) {
                    return true;
                }
                if (rounds == 20) {
                    return false;
                }
                sew(seams);
                fold();
                rounds++;
                if (places.size() > 24) {
                    return false;
                }
            }
        }

        private List<Object[]> seams(String[][] rules) {
            List<Object[]> seams = new ArrayList<>();
            for (int p : places) {
                for (String[] rule : rules) {
                    for (int side = 0; rule != null && side < 2; side++) {
                        int q = read(p, rule[side]);
                        if (q >= 0 && read(p, rule[1 - side]) != q) {
                            seams.add(new Object[] {p, q, rule[1 - side]});
                        }
                    }
                }
            }
            return seams;
        }

        /** Words with letters first: then places that become one are still there under their old names. */
        private void sew(List<Object[]> seams) {
            for (Object[] seam : seams) {
                String word = (String) seam[2];
                int at = (Integer) seam[0];
                for (int i = 0; i < word.length(); i++) {
                    int next = i == word.length() - 1 ? (Integer) seam[1] : fresh();
                    join(at, word.charAt(i), next);
                    at = next;
                }
            }
            Map<Integer, Integer> became = new HashMap<>();
            for (Object[] seam : seams) {
                if (((String) seam[2]).isEmpty()) {
                    int a = (Integer) seam[0];
                    int b = (Integer) seam[1];
                    a = became.getOrDefault(a, a);
                    b = became.getOrDefault(b, b);
                    final int going = a;
                    final int staying = b;
                    become(going, staying);
                    became.replaceAll((p, q) -> q == going ? staying : q);
                    became.put(going, staying);
                }
            }
        }
    }
}
