import java.io.IOException;
import java.lang.reflect.Field;
import java.lang.reflect.Method;
import java.lang.reflect.Modifier;
import java.nio.file.Files;
import java.nio.file.Path;
import java.util.List;
import java.util.Set;
import java.util.TreeSet;

/** The public face, and the rules of LANGUAGE.md. The path of the program's text is the argument. */
public final class LanguageTest extends Check {
    private static final Set<String> FACE = Set.of(
            "int add(int, int, int)", "boolean remove(int)", "int conditions()", "boolean goal(int)",
            "boolean feasible(int)", "int bestTop(int)", "int bestBottom(int)", "int pointTop(int)",
            "int pointBottom(int)", "int tight()", "int reachTop(int, int)", "int reachBottom(int, int)",
            "boolean redundant(int)", "int whole()", "int wholePoint()", "int wholes()");
    private static final Set<String> CONSTANTS =
            Set.of("int BAD -10000000", "int FULL -20000000", "int NONE -30000000");

    public static void main(String[] args) throws IOException, IllegalAccessException {
        lookAtConstructors();
        lookAtConstants();
        lookAtMethods();
        lookAtRules(args);
        rulesAreNoticed();
        end();
    }

    private static void lookAtConstructors() {
        Class<?> c = AmountPlanner.class;
        if (!Modifier.isPublic(c.getModifiers()) || !Modifier.isFinal(c.getModifiers())) {
            report("the class is not public and final");
        }
        if (c.getDeclaredConstructors().length != 1 || c.getConstructors().length != 1
                || c.getConstructors()[0].getParameterCount() != 0) {
            report("there is not one public constructor without parameters");
        }
    }

    private static void lookAtConstants() throws IllegalAccessException {
        Set<String> constants = new TreeSet<>();
        for (Field field : AmountPlanner.class.getDeclaredFields()) {
            if (!Modifier.isPrivate(field.getModifiers())) {
                constants.add(field.getType() + " " + field.getName() + " " + field.get(null));
            }
        }
        if (!constants.equals(CONSTANTS)) {
            report("the public constants are " + constants);
        }
    }

    private static void lookAtMethods() {
        Set<String> face = new TreeSet<>();
        for (Method method : AmountPlanner.class.getDeclaredMethods()) {
            if (!Modifier.isPrivate(method.getModifiers())) {
                face.add(described(method));
            }
        }
        if (!face.equals(FACE)) {
            report("the public methods are " + face);
        }
    }

    private static String described(Method method) {
        StringBuilder types = new StringBuilder();
        for (Class<?> type : method.getParameterTypes()) {
            types.append(types.length() == 0 ? "" : ", ").append(type);
        }
        String kept = Modifier.toString(method.getModifiers() & ~Modifier.PUBLIC);
        String head = kept.isEmpty() ? "" : kept + " ";
        return head + method.getReturnType() + " " + method.getName() + "(" + types + ")";
    }

    private static void lookAtRules(String[] args) throws IOException {
        if (args.length != 1) {
            report("the path of the program's text was not given");
            return;
        }
        for (String fault : LanguageRules.faults("AmountPlanner", Files.readString(Path.of(args[0])))) {
            report("rule " + fault);
        }
    }

    /** A look at the rules that never finds anything would be worth nothing. */
    private static void rulesAreNoticed() throws IOException {
        dueRule(0, "", "");
        membersAreNoticed();
        statementsAreNoticed();
        loopsAreNoticed();
        callsAreNoticed();
        dueRuleOf(1, "package p; " + small("", ""));
        dueRuleOf(1, "import java.util.List; " + small("", ""));
        dueRuleOf(1, small("", "") + " class Other { }");
        dueRuleOf(1, "public class Small { }");
        dueRuleOf(1, "public final class Another { }");
    }

    private static void membersAreNoticed() throws IOException {
        dueRule(1, "int open;", "");
        dueRule(1, "public int open;", "");
        dueRule(1, "int open() { return 1; }", "");
        dueRule(1, "private void ask() { }", "");
        dueRule(1, "private static class Inner { }", "");
        dueRule(1, "private enum Inner { ONE }", "");
        dueRule(2, "private float part;", "");
        dueRule(2, "private String text;", "");
        dueRule(2, "private final int[][] table = new int[3][3];", "");
        dueRule(4, "private int[] more = new int[3];", "");
        dueRule(4, "private final int[] more = new int[0];", "");
        dueRule(4, "private final int[] more = new int[SIZE + 1];", "");
        dueRule(4, "private final int[] more = {1, 2};", "");
        dueRule(4, "private final int[] more = cells;", "");
        dueRule(4, "private int[] all() { return cells; }", "");
        dueRule(5, "private static int counted = 0;", "");
        dueRule(5, "private static final boolean YES = true;", "");
        dueRule(5, "private static final int[] KEPT = new int[3];", "");
        dueRule(5, "static { }", "");
        dueRule(6, "private synchronized void wait1() { }", "");
    }

    private static void statementsAreNoticed() throws IOException {
        dueRule(2, "", "double part = 1;");
        dueRule(2, "", "var part = 1;");
        dueRule(2, "", "i = (int) (double) i;");
        dueRule(2, "", "i = 1.5 > i ? 1 : 2;");
        dueRule(2, "", "new Object();");
        dueRule(2, "", "if (null == null) { i = 1; }");
        dueRule(3, "", "i = \"text\".length();");
        dueRule(3, "", "hashCode();");
        dueRule(3, "", "i = Math.abs(i);");
        dueRule(4, "", "int[] more = new int[3];");
        dueRule(4, "", "int[] more = cells;");
        dueRule(4, "", "if (cells == cells) { i = 1; }");
        dueRule(4, "", "cells = cells;");
        dueRule(6, "", "throw null;");
        dueRule(6, "", "assert i > 0;");
        dueRule(6, "", "try { i = 1; } finally { i = 2; }");
        dueRule(6, "", "Runnable r = () -> { };");
    }

    private static void loopsAreNoticed() throws IOException {
        dueRule(0, "", "for (int k = i; k <= 7 && i > 0; k++) { i = k; }");
        dueRule(8, "", "for (int k = 0; k < i; k++) { i = 1; }");
        dueRule(8, "", "for (int k = 0; i > 0 && k < 7; k++) { i = 1; }");
        dueRule(8, "", "for (int k = 0; k < 7 || i > 0; k++) { i = 1; }");
        dueRule(8, "", "for (int k = 0; k < 7; k--) { i = 1; }");
        dueRule(8, "", "for (int k = 0; k < 7; i++) { i = 1; }");
        dueRule(8, "", "for (int k = 0; k < 7; k++) { k = 0; }");
        dueRule(8, "", "for (int k = 0; k < 7; k++) { k--; }");
        dueRule(8, "", "for (int k = 0; k < 7; k++) { k += i; }");
        dueRule(8, "", "for (int k = 0; k < 7 && (k = i) > 0; k++) { i = 1; }");
        dueRule(8, "", "for (int k = 0; k <= 2147483647; k++) { i = 1; }");
        dueRule(8, "", "for (byte k = 0; k < 200; k++) { i = 1; }");
        dueRule(8, "", "for (; ; ) { i = 1; }");
        dueRule(8, "", "while (i > 0) { i--; }");
        dueRule(8, "", "do { i--; } while (i > 0);");
    }

    private static void callsAreNoticed() throws IOException {
        dueRule(8, "private int again(int i) { return again(i); }", "");
        dueRule(8, "private int one(int i) { return two(i); } private int two(int i) { return one(i); }", "");
        dueRule(10, "", "i = help(help(i));");
        dueRule(10, "", "i = help(1 + (i > 0 ? help(i) : 2));");
        dueRule(10, "private void much(int a, int b, int c, int d, int e, int f, int g, int h) { }", "");
        dueRule(10, "", "i = 1;" + "\n".repeat(60));
        dueRule(10, "private int some;".repeat(40), "");
        // help calls nothing: with ask that makes two, and each of these one more.
        String chain = "private int a(int i) { return help(i); } private int b(int i) { return a(i); }"
                + "private int c(int i) { return b(i); } private int d(int i) { return c(i); }";
        dueRule(0, chain, "i = d(i);");
        dueRule(10, chain + "private int e(int i) { return d(i); }", "i = e(i);");
    }

    private static String small(String member, String statement) {
        return "public final class Small { private static final int SIZE = 3;"
                + " private final int[] cells = new int[SIZE]; " + member
                + " public int ask(int i) { " + statement + " return help(i); }"
                + " private int help(int i) { for (int k = 0; k < SIZE; k++) { cells[k] = i; } return i; } }";
    }

    private static void dueRule(int rule, String member, String statement) throws IOException {
        dueRuleOf(rule, small(member, statement));
    }

    /** Rule 0 stands for no fault at all. */
    private static void dueRuleOf(int rule, String text) throws IOException {
        List<String> faults = LanguageRules.faults("Small", text);
        boolean found = faults.stream().anyMatch(fault -> fault.startsWith(rule + ":"));
        if (rule == 0 ? !faults.isEmpty() : !found) {
            report("rule " + rule + " is due, but these are noticed: " + faults + " in " + text);
        }
    }
}
