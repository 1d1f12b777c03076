import java.io.IOException;
import java.lang.management.ManagementFactory;
import java.lang.reflect.Field;
import java.lang.reflect.Method;
import java.lang.reflect.Modifier;
import java.nio.file.Files;
import java.nio.file.Path;
import java.util.ArrayList;
import java.util.Collections;
import java.util.List;
import java.util.regex.Matcher;
import java.util.regex.Pattern;

/** The rules of LANGUAGE.md that can be seen in the text of the program, its face, and the room that calls take. */
public final class RulesTest {
    private static final String[] FACE = {
        "int acts()", "int arc(int,int)", "boolean back()", "int best(int)", "int chain(int,int)",
        "int common(int,int)", "int count(int)", "boolean end(int)", "int fall(int,int)", "int fault()",
        "int feed(int,int,int,int,int)", "void image()", "boolean keeps(int,int)", "int latest(int)",
        "int lay(int,int)", "int level(int)", "void net(int)", "int node(int,int)", "int octet(int)",
        "int open(int)", "int pass(int,int)", "int row(int)", "int seal(int)", "int shut(int)",
        "int tell(int,boolean)", "int text(int)", "int toll(int,int)", "int undo()", "int via(int,int)",
        "int walk(int)", "int why()", "int without(int)", "int worst(int)", "int would(int,int,int)"};
    private static final String[] RULED_OUT = {
        "->", "::", "\\bcatch\\b", "\\bfinally\\b", "\\bsynchronized\\b", "\\bassert\\b", "\\bstatic \\{",
        "Exact\\b", "\\bdouble\\b", "\\bfloat\\b", "\\bequals\\b", "\\bhashCode\\b", "\\btoString\\b",
        "\\bObject\\b", "\\bThrowable\\b", "\\bprotected\\b", "[^\\x00-\\x7f]"};
    private static final Pattern METHOD = Pattern.compile("^ {4,8}(?! )[^=;]*\\) (throws [\\w, ]+ )?\\{$");

    private RulesTest() {
    }

    public static void main(String[] args) throws IOException {
        String source = Files.readString(Path.of("src/main/java/GateLifter.java"));
        face();
        hidden();
        words(source.replaceAll("(?s)/\\*\\*.*?\\*/", "").replaceAll("//.*", ""));
        methods(source.split("\n"));
        room();
        Check.finish();
    }

    private static void face() {
        List<String> want = new ArrayList<>(List.of(FACE));
        List<String> got = new ArrayList<>();
        for (Method method : GateLifter.class.getDeclaredMethods()) {
            if (!Modifier.isPrivate(method.getModifiers())) {
                got.add(method.toString().replaceAll("public (\\w+) GateLifter\\.(.*?\\)).*", "$1 $2"));
            }
        }
        Collections.sort(want);
        Collections.sort(got);
        Check.due("the face " + got, got.equals(want), true);
        Check.due("the class is final", Modifier.isFinal(GateLifter.class.getModifiers()), true);
        Check.due("constructors", GateLifter.class.getDeclaredConstructors().length, 1);
    }

    /** No field but the constant is open, and no other method bears the name of a public one. */
    private static void hidden() {
        List<Class<?>> classes = new ArrayList<>(List.of(GateLifter.class.getDeclaredClasses()));
        classes.add(GateLifter.class);
        Check.due("at most twelve classes", classes.size() <= 12, true);
        for (Class<?> one : classes) {
            int fields = 0;
            for (Field field : one.getDeclaredFields()) {
                boolean isPrivate = Modifier.isPrivate(field.getModifiers());
                Check.due(field + " is private", isPrivate || field.getName().equals("NONE"), true);
                fields += Modifier.isStatic(field.getModifiers()) ? 0 : 1;
                boolean fixed = !Modifier.isStatic(field.getModifiers()) || Modifier.isFinal(field.getModifiers());
                Check.due(field + " is final if it is static", fixed, true);
            }
            Check.due(one + " has at most twenty fields", fields <= 20, true);
            for (Method method : one.getDeclaredMethods()) {
                boolean isOpen = one == GateLifter.class && Modifier.isPublic(method.getModifiers());
                Check.due(method + " has a name of its own", isOpen || !isOfFace(method.getName()), true);
                Check.due(method + " takes at most seven", method.getParameterCount() <= 7, true);
            }
        }
    }

    private static boolean isOfFace(String name) {
        for (String one : FACE) {
            if (one.contains(" " + name + "(")) {
                return true;
            }
        }
        return false;
    }

    private static void words(String code) {
        for (String word : RULED_OUT) {
            Check.due("times of " + word, Pattern.compile(word).matcher(code).results().count(), 0);
        }
        Matcher imports = Pattern.compile("import (.*);").matcher(code);
        while (imports.find()) {
            boolean allowed = imports.group(1).matches("java\\.util\\.(Arrays|NoSuchElementException)");
            Check.due(imports.group(), allowed, true);
        }
        Matcher made = Pattern.compile("(throw )?new (\\w+)").matcher(code);
        while (made.find()) {
            Check.due(made.group() + " is thrown, if an exception",
                    (made.group(1) != null) == made.group(2).endsWith("Exception"), true);
        }
    }

    private static void methods(String[] lines) {
        int begin = -1;
        int seen = 0;
        for (int i = 0; i < lines.length; i++) {
            if (METHOD.matcher(lines[i]).find() && !lines[i].contains("class ")) {
                begin = i;
                seen++;
            }
            boolean ends = begin >= 0 && lines[i].equals(lines[begin].replaceAll("\\S.*", "") + "}");
            if (ends) {
                Check.due("lines of " + lines[begin].trim() + " up to 60", i - begin < 60, true);
                begin = -1;
            }
        }
        Check.due("methods were seen", seen > 100, true);
    }

    /** All that calls use is made by the constructor: no call makes anything. */
    private static void room() {
        com.sun.management.ThreadMXBean bean =
                (com.sun.management.ThreadMXBean) ManagementFactory.getThreadMXBean();
        GateLifter x = new GateLifter();
        x.net(16);
        ask(x);
        long before = bean.getCurrentThreadAllocatedBytes();
        bean.getCurrentThreadAllocatedBytes();
        long measuring = bean.getCurrentThreadAllocatedBytes() - before;
        before = bean.getCurrentThreadAllocatedBytes();
        for (int i = 0; i < 60; i++) {
            x.lay(i * 7 % 16, i * 11 % 16);
            ask(x);
        }
        long taken = bean.getCurrentThreadAllocatedBytes() - before;
        Check.due("bytes that calls took beyond " + measuring, taken <= measuring + 4096, true);
    }

    private static void ask(GateLifter x) {
        for (int what = 0; what < 19; what++) {
            x.count(what);
        }
        for (int what = 0; what < 22; what++) {
            x.node(9, what);
        }
        x.best(0);
        x.would(3, 9, 0);
        x.worst(1);
        x.pass(9, -1);
        x.walk(5);
        x.row(5);
        x.text(9);
        x.via(0, 9);
        x.seal(6);
        x.image();
        x.feed(0x65786974, 0x20313b65, 0x78697420, 0x323b6578, 0x69742033);
        x.acts();
        x.toll(3, x.node(3, 14) == 0 ? 1 : 0);
        x.undo();
    }
}
