import java.lang.reflect.Constructor;
import java.lang.reflect.Field;
import java.lang.reflect.Method;
import java.lang.reflect.Modifier;
import java.util.Arrays;
import java.util.Set;
import java.util.TreeSet;

/** The class has the document's face and no more. */
public final class FaceTest {
    private static int wrong = 0;

    public static void main(String[] args) {
        face();
        constants();
        System.out.println(wrong == 0 ? "the face is as due" : wrong + " faults of the face");
        if (wrong != 0) {
            System.exit(1);
        }
    }

    private static void fault(String text) {
        wrong++;
        System.out.println(text);
    }

    private static void face() {
        Class<?> c = HalfMaps.class;
        if (!Modifier.isPublic(c.getModifiers()) || !Modifier.isFinal(c.getModifiers())) {
            fault("the class is not public and final");
        }
        Set<String> due = new TreeSet<>(Arrays.asList("set 2", "of 2", "leads 2", "both 4", "turn 3", "below 2", "say 1",
            "wipe 0", "word 1", "value 2", "made 2", "way 3", "tree 2", "compare 2", "rule 4", "net 2", "reads 2", "image 1",
            "restore 1", "count 1"));
        Set<String> names = new TreeSet<>();
        due.forEach(call -> names.add(call.substring(0, call.indexOf(' '))));
        Set<String> found = new TreeSet<>();
        for (Method m : c.getDeclaredMethods()) {
            if (Modifier.isPrivate(m.getModifiers())) {
                if (names.contains(m.getName())) {
                    fault("a private method bears a public name: " + m);
                }
                continue;
            }
            if (!Modifier.isPublic(m.getModifiers()) || m.getReturnType() != int.class || Modifier.isStatic(m.getModifiers())) {
                fault("not of the face: " + m);
            }
            found.add(m.getName() + " " + m.getParameterCount());
        }
        if (!found.equals(due)) {
            fault("methods are " + found + ", due are " + due);
        }
        for (Constructor<?> made : c.getDeclaredConstructors()) {
            if (!Modifier.isPublic(made.getModifiers()) || made.getParameterCount() != 0) {
                fault("not of the face: " + made);
            }
        }
        for (Class<?> inside : c.getDeclaredClasses()) {
            insideClass(inside, names);
        }
    }

    private static void insideClass(Class<?> inside, Set<String> names) {
        if (!Modifier.isStatic(inside.getModifiers()) || Modifier.isPublic(inside.getModifiers())) {
            fault("not static or public: " + inside);
        }
        for (Method m : inside.getDeclaredMethods()) {
            if (names.contains(m.getName()) || m.getParameterCount() > 7) {
                fault("public name or too many parameters: " + m);
            }
        }
        for (Field f : inside.getDeclaredFields()) {
            if (Modifier.isStatic(f.getModifiers()) && !Modifier.isFinal(f.getModifiers())) {
                fault("static and not final: " + f);
            }
        }
    }

    private static void constants() {
        Set<String> found = new TreeSet<>();
        for (Field f : HalfMaps.class.getDeclaredFields()) {
            if (!Modifier.isPrivate(f.getModifiers())) {
                found.add(Modifier.toString(f.getModifiers()) + " " + f.getType() + " " + f.getName());
            } else if (Modifier.isStatic(f.getModifiers()) && !Modifier.isFinal(f.getModifiers())) {
                fault("static and not final: " + f);
            }
        }
        Set<String> due = new TreeSet<>();
        for (String name : new String[] {"UNKNOWN", "OUTSIDE", "STATE", "FULL", "NONE", "FAULT"}) {
            due.add("public static final int " + name);
        }
        if (!found.equals(due)) {
            fault("constants are " + found + ", due are " + due);
        }
        int[] values = {HalfMaps.UNKNOWN, HalfMaps.OUTSIDE, HalfMaps.STATE, HalfMaps.FULL, HalfMaps.NONE, HalfMaps.FAULT};
        if (!Arrays.equals(values, new int[] {-1, -2, -3, -4, -6, -7})) {
            fault("the constants' values are " + Arrays.toString(values));
        }
    }
}
