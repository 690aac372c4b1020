import java.lang.reflect.Constructor;
import java.lang.reflect.Field;
import java.lang.reflect.Method;
import java.lang.reflect.Modifier;
import java.util.Arrays;
import java.util.Set;
import java.util.TreeSet;

/** The public face is the document's and no more, and the fields keep to rules 1, 2 and 5 of LANGUAGE.md. */
public final class FaceTest {
    private static final Set<Class<?>> NUMBER_TYPES =
        Set.of(int.class, long.class, short.class, byte.class, char.class, boolean.class);

    public static void main(String[] args) {
        Due.part("face");
        constants();
        Class<?> face = WhatIfTables.class;
        Due.same("class is public and final", face.getModifiers() == (Modifier.PUBLIC | Modifier.FINAL), true);
        Due.same("class has no package", face.getPackageName().isEmpty(), true);
        Due.same("nested classes", face.getDeclaredClasses().length, 0);
        constructors(face);
        methods(face);
        fields(face);
        Due.end();
    }

    private static void constants() {
        Due.same("BAD_CELL", WhatIfTables.BAD_CELL, -1);
        Due.same("BAD_TOKEN", WhatIfTables.BAD_TOKEN, -2);
        Due.same("FULL", WhatIfTables.FULL, -3);
        Due.same("UNSOUND", WhatIfTables.UNSOUND, -4);
        Due.same("CIRCLE", WhatIfTables.CIRCLE, -5);
    }

    private static void constructors(Class<?> face) {
        Constructor<?>[] all = face.getDeclaredConstructors();
        Due.same("constructors", all.length, 1);
        Due.same("constructor is public", Modifier.isPublic(all[0].getModifiers()), true);
        Due.same("constructor's parameters", all[0].getParameterCount(), 0);
    }

    private static void methods(Class<?> face) {
        Set<String> due = new TreeSet<>(Arrays.asList(
            "int token[int, int]", "void clearTokens[]", "int formula[int]", "int number[int, int]",
            "int input[boolean, int]", "int table[int, int, int]", "int entry[int, int]", "int value[int]",
            "int dependents[int]", "boolean isFormula[int]"));
        Set<String> found = new TreeSet<>();
        Set<String> publicNames = new TreeSet<>();
        for (Method method : face.getDeclaredMethods()) {
            if (!Modifier.isPrivate(method.getModifiers())) {
                Due.same(method + " is public and not static", method.getModifiers(), Modifier.PUBLIC);
                found.add(method.getReturnType() + " " + method.getName() + Arrays.toString(method.getParameterTypes()));
                publicNames.add(method.getName());
            }
        }
        Due.same("methods " + found + " are " + due, found.equals(due), true);
        for (Method method : face.getDeclaredMethods()) {
            if (Modifier.isPrivate(method.getModifiers())) {
                Due.same(method + " bears a public name", publicNames.contains(method.getName()), false);
            }
        }
    }

    private static void fields(Class<?> face) {
        Set<String> due = Set.of("BAD_CELL", "BAD_TOKEN", "FULL", "UNSOUND", "CIRCLE");
        int open = 0;
        for (Field field : face.getDeclaredFields()) {
            Class<?> type = field.getType();
            Class<?> element = type.isArray() ? type.getComponentType() : type;
            Due.same(field + " has a number type", NUMBER_TYPES.contains(element), true);
            if (Modifier.isStatic(field.getModifiers())) {
                Due.same(field + " is a constant", Modifier.isFinal(field.getModifiers()) && !type.isArray(), true);
            }
            if (!Modifier.isPrivate(field.getModifiers())) {
                open++;
                Due.same(field + " is in the document", due.contains(field.getName()), true);
                Due.same(field + " is an int", type == int.class, true);
                Due.same(field + " is public, static and final", field.getModifiers(),
                    Modifier.PUBLIC | Modifier.STATIC | Modifier.FINAL);
            }
        }
        Due.same("fields that are not private", open, due.size());
    }
}
