import java.lang.reflect.Constructor;
import java.lang.reflect.Field;
import java.lang.reflect.Method;
import java.lang.reflect.Modifier;
import java.nio.charset.StandardCharsets;
import java.nio.file.Files;
import java.nio.file.Path;
import java.util.List;
import java.util.Set;
import java.util.TreeSet;
import java.util.regex.Matcher;
import java.util.regex.Pattern;

/** What can be seen of the rules of LANGUAGE.md from outside: the face, and the bounds on classes, fields and methods. */
public final class LanguageTest {
    private static final Checks c = new Checks();
    private static final Path SOURCE = Path.of("src/main/java/RoadToPort.java");

    private static final List<String> FACE = List.of("feed(int,int,int,int,int) int", "end(int) boolean", "land() int",
            "fault() int", "place(int,int) int", "road(int,int,int) int", "man(int,int) int", "now(int) int",
            "swear(int,int,int) int", "order(int,int) int", "slip(int) int", "enter(int) int", "get(int,int) int",
            "days(int,int) int", "undo() int", "far(int,int) int", "way(int,int) int", "wayAt(int) int",
            "plan(int,int) long", "planAt(int) int", "sent() int", "sentTo(int) int", "cut(int,int) int", "cutting() int",
            "worst(int,int) int", "ship(int,int,int) int", "turned(int) int", "least() int", "greatest() int",
            "there(int) int", "oath(int) int", "byteAt(int) int", "odds(int,int,int) int", "book(int) int",
            "told(int) int", "sentence() int", "said(int) int", "image(int) boolean", "restore(int) boolean",
            "count(int) int");

    public static void main(String[] args) throws Exception {
        face();
        inside();
        source(Files.readString(SOURCE, StandardCharsets.UTF_8));
        c.close("LanguageTest");
    }

    private static String signature(Method m) {
        StringBuilder text = new StringBuilder(m.getName()).append('(');
        for (Class<?> p : m.getParameterTypes()) {
            text.append(text.charAt(text.length() - 1) == '(' ? "" : ",").append(p.getName());
        }
        return text.append(") ").append(m.getReturnType().getName()).toString();
    }

    private static void face() {
        Set<String> seen = new TreeSet<>();
        Set<String> names = new TreeSet<>();
        for (Method m : RoadToPort.class.getDeclaredMethods()) {
            if (Modifier.isPublic(m.getModifiers())) {
                seen.add(signature(m));
                names.add(m.getName());
                c.is(m.getName() + " is not static", Modifier.isStatic(m.getModifiers()), false);
            } else {
                c.is(m.getName() + " is private", Modifier.isPrivate(m.getModifiers()), true);
            }
        }
        c.is("the face is " + seen, seen.equals(new TreeSet<>(FACE)), true);
        for (Class<?> inside : RoadToPort.class.getDeclaredClasses()) {
            for (Method m : inside.getDeclaredMethods()) {
                c.is(m + " bears no public method's name", names.contains(m.getName()), false);
            }
        }
        for (Method m : RoadToPort.class.getDeclaredMethods()) {
            if (!Modifier.isPublic(m.getModifiers())) {
                c.is(m + " bears no public method's name", names.contains(m.getName()), false);
            }
        }
        c.is("the class is final", Modifier.isFinal(RoadToPort.class.getModifiers()), true);
        Constructor<?>[] all = RoadToPort.class.getDeclaredConstructors();
        c.is("one constructor", all.length, 1);
        c.is("it is public", Modifier.isPublic(all[0].getModifiers()), true);
    }

    private static void inside() {
        c.is("classes", RoadToPort.class.getDeclaredClasses().length + 1 <= 12, true);
        fields(RoadToPort.class, "NONE");
        for (Class<?> inside : RoadToPort.class.getDeclaredClasses()) {
            c.is(inside + " is static", Modifier.isStatic(inside.getModifiers()), true);
            c.is(inside + " is private", Modifier.isPrivate(inside.getModifiers()), true);
            fields(inside, "");
        }
    }

    private static void fields(Class<?> of, String open) {
        int own = 0;
        for (Field f : of.getDeclaredFields()) {
            if (Modifier.isStatic(f.getModifiers())) {
                c.is(f + " is final", Modifier.isFinal(f.getModifiers()), true);
            } else {
                own++;
            }
            if (of == RoadToPort.class) {
                c.is(f + " is private", Modifier.isPrivate(f.getModifiers()), !f.getName().equals(open));
            }
        }
        c.is(of + " has " + own + " fields", own <= 20, true);
    }

    private static void source(String text) {
        String bare = text.replaceAll("(?s)/\\*.*?\\*/", "").replaceAll("//[^\n]*", "");
        for (String word : List.of("->", "::", "\\btry\\b", "\\bcatch\\b", "\\bfinally\\b", "\\bassert\\b", "\\bsynchronized\\b",
                "\\binstanceof\\b", "System\\.out", "Exact\\(", "\\bpackage\\b", "\" \\+", "\\+ \"")) {
            c.is("no " + word, Pattern.compile(word).matcher(bare).find(), false);
        }
        c.is("signs are 1 to 127", text.chars().allMatch(s -> s < 128), true);
        Matcher imports = Pattern.compile("import ([\\w.]+);").matcher(bare);
        while (imports.find()) {
            c.is("import of " + imports.group(1),
                    Set.of("java.util.Arrays", "java.util.NoSuchElementException").contains(imports.group(1)), true);
        }
        methods(bare.split("\n"));
    }

    private static void methods(String[] lines) {
        Pattern head = Pattern.compile("^( {4}| {8})(?:[\\w\\[\\]]+ )*(\\w+)\\(([^()]*)\\)[\\w ]*\\{$");
        for (int i = 0; i < lines.length; i++) {
            Matcher m = head.matcher(lines[i]);
            if (!m.find() || Set.of("if", "for", "while", "switch").contains(m.group(2))) {
                continue;
            }
            int j = i;
            while (j < lines.length && !lines[j].equals(m.group(1) + "}")) {
                j++;
            }
            c.is(m.group(2) + " has " + (j - i + 1) + " lines", j - i + 1 <= 60, true);
            c.is(m.group(2) + " has few parameters", m.group(3).split(",").length <= 7, true);
        }
    }
}
