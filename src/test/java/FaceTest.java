import java.io.IOException;
import java.lang.reflect.Constructor;
import java.lang.reflect.Field;
import java.lang.reflect.Method;
import java.lang.reflect.Modifier;
import java.nio.file.Files;
import java.nio.file.Path;
import java.util.Set;
import java.util.TreeSet;
import java.util.regex.Matcher;
import java.util.regex.Pattern;

/** The document's face, no more and no less, and those rules of LANGUAGE.md that can be read off the text. */
final class FaceTest extends Due {
    /** As the document has it: what the interface says ahead of some calls, and the calls, in this order. */
    private static final String FACE = """
        public static final int NONE = -1, BAD = -2, STATE = -3, FULL = -4;
        public static final long NO = Long.MIN_VALUE;
        public ReversedLinks()
        // ---- cells
        public int cell(int layout, int tag, int n)
        public int of(int cell, int what)
        public int field(int cell, int i)
        public int raw(int cell, int i)
        public int hold(int cell, int i, int other)
        public int tag(int cell, int n)
        public int root(int root, int cell)
        public int pin(int cell, boolean isPinned)
        // ---- texts
        public int feed(int sign)
        public int build(int root)
        // ---- marking
        public int begin(int limit)
        public int step(int n)
        public int leave()
        public int sweep()
        public int told(int what)
        public int on(int n, int what)
        public int need(int limit, int what)
        public int least(int what)
        // ---- seen, odds
        public int see(int cell, int n, boolean isMarked)
        public int fits(int limit)
        public int can(int cell, int limit, int what)
        public long odds(int cell, int part)
        public long mean(int part)
        // ---- plans, books
        public int plan(int what, int n)
        public int ends()
        public int book(int cell, int i, int other)
        public int looked()
        // ---- judging, the image, tapes
        public int judge(int tape, int i)
        public int image()
        public int undo()
        public int taken(int cell, int k)
        public int count(int what)
        public int tape(int tape, int sort, int n)
        public int item(int tape, int i, long v)
        public long read(int tape, int i)
        public int shift(int tape, int i, int other, int j, int n)
        """;
    private static final Pattern FORBIDDEN = Pattern.compile("\\b(throw|throws|try|catch|finally|synchronized|assert|double|float|"
        + "yield|System\\.(?!arraycopy)|Random|Thread)\\b|->|::|\\w+Exact\\b|\"");

    private static final Set<String> LIBRARY = Set.of("Math.max", "Integer.bitCount", "Long.MIN_VALUE", "Arrays.fill", "System.arraycopy");

    public static void main(String[] args) throws IOException {
        constants();
        members();
        classesInside();
        inOrder();
        text();
        end();
    }

    static void constants() {
        is(-1, ReversedLinks.NONE, "NONE");
        is(-2, ReversedLinks.BAD, "BAD");
        is(-3, ReversedLinks.STATE, "STATE");
        is(-4, ReversedLinks.FULL, "FULL");
        is(Long.MIN_VALUE, ReversedLinks.NO, "NO");
    }

    static void members() {
        Class<ReversedLinks> face = ReversedLinks.class;
        is(Modifier.PUBLIC | Modifier.FINAL, face.getModifiers(), "public and final");
        is(1, face.getDeclaredConstructors().length, "one constructor");
        for (Constructor<?> c : face.getDeclaredConstructors()) {
            is(1, c.toString().equals("public ReversedLinks()") ? 1 : 0, "the constructor " + c);
        }
        is(1, face.getSuperclass() == Object.class && face.getInterfaces().length == 0 ? 1 : 0, "it is nothing else");
        Set<String> due = new TreeSet<>();
        for (String line : FACE.split("\n")) {
            if (line.endsWith(")") && !line.contains("ReversedLinks")) {
                due.add(line.substring("public ".length()).replaceAll("(int|long|boolean) \\w+([,)])", "$1$2"));
            }
        }
        Set<String> names = names();
        Set<String> got = new TreeSet<>();
        for (Method m : face.getDeclaredMethods()) {
            if (Modifier.isPrivate(m.getModifiers())) {
                is(0, names.contains(m.getName()) ? 1 : 0, "a private method named " + m.getName());
            } else {
                is(Modifier.PUBLIC, m.getModifiers(), "public: " + m);
                String types = java.util.Arrays.toString(m.getParameterTypes());
                got.add(m.getReturnType() + " " + m.getName() + "(" + types.substring(1, types.length() - 1) + ")");
            }
        }
        is(1, got.equals(due) ? 1 : 0, "methods " + got);
        is(36, due.size(), "methods that are due");
        Set<String> constants = new TreeSet<>();
        for (Field f : face.getDeclaredFields()) {
            if (!Modifier.isPrivate(f.getModifiers())) {
                is(Modifier.PUBLIC | Modifier.STATIC | Modifier.FINAL, f.getModifiers(), "a constant: " + f);
                constants.add(f.getType() + " " + f.getName());
            }
        }
        is(1, constants.equals(Set.of("int NONE", "int BAD", "int STATE", "int FULL", "long NO")) ? 1 : 0, "constants " + constants);
    }

    /** The names of all calls. */
    static Set<String> names() {
        Set<String> names = new TreeSet<>();
        Matcher call = Pattern.compile("public (?:int|long) (\\w+)\\(").matcher(FACE);
        while (call.find()) {
            names.add(call.group(1));
        }
        return names;
    }

    static void classesInside() {
        Class<?>[] classes = ReversedLinks.class.getDeclaredClasses();
        is(1, classes.length < 12 ? 1 : 0, "classes: " + classes.length);
        noStaticState(ReversedLinks.class);
        for (Class<?> inside : classes) {
            is(1, Modifier.isStatic(inside.getModifiers()) && !Modifier.isPublic(inside.getModifiers()) ? 1 : 0, "inside: " + inside);
            for (Method m : inside.getDeclaredMethods()) {
                boolean isPrivate = Modifier.isPrivate(m.getModifiers());
                is(0, isPrivate && names().contains(m.getName()) ? 1 : 0, "a private method inside named " + m.getName());
                is(1, m.getParameterCount() <= 7 ? 1 : 0, "parameters of " + m.getName());
            }
            is(1, inside.getDeclaredFields().length <= 20 ? 1 : 0, "fields of " + inside);
            noStaticState(inside);
        }
    }

    private static void noStaticState(Class<?> of) {
        for (Field f : of.getDeclaredFields()) {
            boolean isConstant = Modifier.isFinal(f.getModifiers()) && (f.getType().isPrimitive() || f.getType() == int[].class);
            is(1, !Modifier.isStatic(f.getModifiers()) || isConstant ? 1 : 0, "a static field: " + f);
        }
    }

    private static String program() throws IOException {
        return Files.readString(Path.of("src/main/java/ReversedLinks.java"));
    }

    static void inOrder() throws IOException {
        String text = program();
        int at = 0;
        for (String line : FACE.split("\n")) {
            int found = text.indexOf("\n    " + line, at);
            is(1, found >= 0 ? 1 : 0, "in its place: " + line);
            at = Math.max(found + 1, at);
        }
    }

    static void text() throws IOException {
        String code = program().replaceAll("(?s)/\\*.*?\\*/", "").replaceAll("//[^\n]*", "");
        Matcher m = FORBIDDEN.matcher(code);
        while (m.find()) {
            is(0, 1, "in the program: " + m.group());
        }
        Matcher imports = Pattern.compile("(?m)^import (.*);").matcher(code);
        while (imports.find()) {
            is(1, imports.group(1).equals("java.util.Arrays") ? 1 : 0, "import " + imports.group(1));
        }
        Matcher library = Pattern.compile("\\b(Math|Integer|Long|Arrays|System)\\.\\w+").matcher(code);
        while (library.find()) {
            is(1, LIBRARY.contains(library.group()) ? 1 : 0, "of the library: " + library.group());
        }
        is(0, code.contains("package ") ? 1 : 0, "a package line");
        Matcher methods = Pattern.compile("(?m)^( {4}| {8})(?:\\w[\\w\\[\\] ]* )?\\w+\\([^)]*\\) \\{\\n((?:\\1 .*\\n|\\n)*)\\1}").matcher(code);
        int found = 0;
        while (methods.find()) {
            found++;
            is(1, methods.group(2).split("\n").length <= 60 ? 1 : 0, "a long method: " + methods.group().split("\n")[0].strip());
        }
        is(1, found > 100 ? 1 : 0, "methods that were found: " + found);
    }
}
