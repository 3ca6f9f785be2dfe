import java.io.IOException;
import java.lang.reflect.Constructor;
import java.lang.reflect.Field;
import java.lang.reflect.Method;
import java.lang.reflect.Modifier;
import java.nio.file.Files;
import java.nio.file.Path;
import java.util.Set;
import java.util.TreeSet;
import java.util.regex.Matcher;
import java.util.regex.Pattern;

/** The document's face, no more and no less, and those rules of LANGUAGE.md that can be read off the text. */
final class FaceTest extends Due {
    private static final String METHODS = """
        int cell(int, int, int)
        int of(int, int)
        int field(int, int)
        int raw(int, int)
        int hold(int, int, int)
        int tag(int, int)
        int root(int, int)
        int pin(int, boolean)
        int feed(int)
        int build(int)
        int begin(int)
        int step(int)
        int leave()
        int sweep()
        int told(int)
        int on(int, int)
        int need(int, int)
        int least(int)
        int see(int, int, boolean)
        int fits(int)
        int can(int, int, int)
        long odds(int, int)
        long mean(int)
        int plan(int, int)
        int ends()
        int book(int, int, int)
        int looked()
        int judge(int, int)
        int image()
        int undo()
        int taken(int, int)
        int count(int)
        int tape(int, int, int)
        int item(int, int, long)
        long read(int, int)
        int shift(int, int, int, int, int)
        """;
    private static final Pattern FORBIDDEN = Pattern.compile("\\b(throw|throws|try|catch|finally|synchronized|assert|double|float|"
        + "yield|System\\.(?!arraycopy)|Random|Thread)\\b|->|::|\\w+Exact\\b|\"");

    public static void main(String[] args) throws IOException {
        constants();
        members();
        text();
        end();
    }

    static void constants() {
        is(-1, ReversedLinks.NONE, "NONE");
        is(-2, ReversedLinks.BAD, "BAD");
        is(-3, ReversedLinks.STATE, "STATE");
        is(-4, ReversedLinks.FULL, "FULL");
        is(Long.MIN_VALUE, ReversedLinks.NO, "NO");
    }

    static void members() {
        Class<ReversedLinks> face = ReversedLinks.class;
        is(Modifier.PUBLIC | Modifier.FINAL, face.getModifiers(), "public and final");
        is(1, face.getDeclaredConstructors().length, "one constructor");
        for (Constructor<?> c : face.getDeclaredConstructors()) {
            is(1, c.toString().equals("public ReversedLinks()") ? 1 : 0, "the constructor " + c);
        }
        Set<String> due = new TreeSet<>(Set.of(METHODS.strip().split("\n")));
        Set<String> names = new TreeSet<>();
        for (String method : due) {
            names.add(method.substring(method.indexOf(' ') + 1, method.indexOf('(')));
        }
        Set<String> got = new TreeSet<>();
        for (Method m : face.getDeclaredMethods()) {
            if (Modifier.isPrivate(m.getModifiers())) {
                is(0, names.contains(m.getName()) ? 1 : 0, "a private method named " + m.getName());
            } else {
                is(Modifier.PUBLIC, m.getModifiers(), "public: " + m);
                String types = java.util.Arrays.toString(m.getParameterTypes());
                got.add(m.getReturnType() + " " + m.getName() + "(" + types.substring(1, types.length() - 1) + ")");
            }
        }
        is(1, got.equals(due) ? 1 : 0, "methods " + got);
        is(36, due.size(), "methods that are due");
        Set<String> constants = new TreeSet<>();
        for (Field f : face.getDeclaredFields()) {
            if (!Modifier.isPrivate(f.getModifiers())) {
                is(Modifier.PUBLIC | Modifier.STATIC | Modifier.FINAL, f.getModifiers(), "a constant: " + f);
                constants.add(f.getType() + " " + f.getName());
            }
        }
        is(1, constants.equals(Set.of("int NONE", "int BAD", "int STATE", "int FULL", "long NO")) ? 1 : 0, "constants " + constants);
        for (Class<?> inside : face.getDeclaredClasses()) {
            is(1, Modifier.isStatic(inside.getModifiers()) && !Modifier.isPublic(inside.getModifiers()) ? 1 : 0, "inside: " + inside);
            for (Method m : inside.getDeclaredMethods()) {
                boolean isPrivate = Modifier.isPrivate(m.getModifiers());
                is(0, isPrivate && names.contains(m.getName()) ? 1 : 0, "a private method inside named " + m.getName());
                is(1, m.getParameterCount() <= 7 ? 1 : 0, "parameters of " + m.getName());
            }
            is(1, inside.getDeclaredFields().length <= 20 ? 1 : 0, "fields of " + inside);
        }
    }

    static void text() throws IOException {
        String text = Files.readString(Path.of("src/main/java/ReversedLinks.java"));
        String code = text.replaceAll("(?s)/\\*.*?\\*/", "").replaceAll("//[^\n]*", "");
        Matcher m = FORBIDDEN.matcher(code);
        while (m.find()) {
            is(0, 1, "in the program: " + m.group());
        }
        Matcher imports = Pattern.compile("(?m)^import (.*);").matcher(code);
        while (imports.find()) {
            is(1, imports.group(1).equals("java.util.Arrays") ? 1 : 0, "import " + imports.group(1));
        }
        is(0, code.contains("package ") ? 1 : 0, "a package line");
        Matcher methods = Pattern.compile("(?m)^( {4}| {8})(?:\\w[\\w\\[\\] ]* )?\\w+\\([^)]*\\) \\{\\n((?:\\1 .*\\n|\\n)*)\\1}").matcher(code);
        int found = 0;
        while (methods.find()) {
            found++;
            is(1, methods.group(2).split("\n").length <= 60 ? 1 : 0, "a long method: " + methods.group().split("\n")[0].strip());
        }
        is(1, found > 100 ? 1 : 0, "methods that were found: " + found);
    }
}
