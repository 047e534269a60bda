import java.io.IOException;
import java.lang.reflect.Field;
import java.lang.reflect.Method;
import java.lang.reflect.Modifier;
import java.nio.file.Files;
import java.nio.file.Path;
import java.util.List;
import java.util.Set;
import java.util.TreeSet;
import java.util.regex.Matcher;
import java.util.regex.Pattern;

/** The public face is the document's and no more; what LANGUAGE.md rules out is not in the source. */
public final class FaceTest {
    private static final List<String> FACE = List.of("feed int long", "ferry", "fault", "told int", "horse int int",
            "beside int int", "cart int", "put int int", "at int", "cross int", "trial int int", "rest int", "drift int",
            "soonest int int", "cheapest int int", "twice int int int", "best int int", "worth int int", "carts int",
            "tell int int int int int", "tear", "pulls int", "sham", "judge", "seed int", "keep int", "goBack int");

    public static void main(String[] args) throws IOException {
        constants();
        methods();
        fieldsAndClasses();
        source(Files.readString(Path.of(args.length > 0 ? args[0] : "src/main/java/OatFerry.java")));
        Check.end();
    }

    private static void constants() {
        Check.due("NONE", OatFerry.NONE, -1);
        Check.due("UNKNOWN", OatFerry.UNKNOWN, -1000000001);
        Check.due("OUTSIDE", OatFerry.OUTSIDE, -1000000002);
        Check.due("NOT", OatFerry.NOT, -1000000003);
        Check.due("FULL", OatFerry.FULL, -1000000004);
        Check.yes("five constants", OatFerry.class.getFields().length == 5);
    }

    private static void methods() {
        Set<String> seen = new TreeSet<>();
        Set<String> names = new TreeSet<>();
        for (Method m : OatFerry.class.getDeclaredMethods()) {
            if (Modifier.isPublic(m.getModifiers())) {
                StringBuilder s = new StringBuilder(m.getName());
                for (Class<?> c : m.getParameterTypes()) {
                    s.append(' ').append(c.getName());
                }
                seen.add(s.toString());
                names.add(m.getName());
                Check.yes(s + " answers int", m.getReturnType() == int.class);
            } else {
                Check.yes(m.getName() + " is private", Modifier.isPrivate(m.getModifiers()));
            }
        }
        Check.yes("the face, no more and no less: " + seen, seen.equals(new TreeSet<>(FACE)));
        for (Class<?> c : OatFerry.class.getDeclaredClasses()) {
            for (Method m : c.getDeclaredMethods()) {
                Check.yes(c.getSimpleName() + "." + m.getName() + " bears no public name", !names.contains(m.getName()));
                Check.yes(m.getName() + " takes at most seven", m.getParameterCount() <= 7);
            }
        }
        Check.yes("one public constructor", OatFerry.class.getConstructors().length == 1
                && OatFerry.class.getDeclaredConstructors().length == 1);
    }

    private static void fieldsAndClasses() {
        Check.yes("final", Modifier.isFinal(OatFerry.class.getModifiers()));
        Check.yes("at most twelve classes", OatFerry.class.getDeclaredClasses().length < 12);
        fields(OatFerry.class);
        for (Class<?> c : OatFerry.class.getDeclaredClasses()) {
            Check.yes(c.getSimpleName() + " is static", Modifier.isStatic(c.getModifiers()));
            fields(c);
        }
    }

    private static void fields(Class<?> c) {
        int own = 0;
        for (Field f : c.getDeclaredFields()) {
            if (Modifier.isStatic(f.getModifiers())) {
                Check.yes(f.getName() + " is final", Modifier.isFinal(f.getModifiers()));
            } else {
                own++;
            }
        }
        Check.yes(c.getSimpleName() + " has at most twenty fields", own <= 20);
    }

    private static void source(String source) {
        String code = source.replaceAll("(?s)/\\*.*?\\*/", "").replaceAll("//[^\n]*", "").replaceAll("\"[^\"\n]*\"", "\"\"");
        for (String word : List.of("throw", "throws", "try", "catch", "finally", "synchronized", "assert", "package",
                "protected", "native", "volatile", "System.out", "Exact", "Random", "Thread", "nanoTime", "currentTimeMillis")) {
            Check.yes("no '" + word + "'", !Pattern.compile("\\b" + Pattern.quote(word) + "\\b").matcher(code).find());
        }
        Check.yes("no lambda", !code.contains("->"));
        Check.yes("no method reference", !code.contains("::"));
        Check.yes("no joining of texts by +", !code.contains("\" +") && !code.contains("+ \""));
        Matcher imports = Pattern.compile("(?m)^import (.*);").matcher(code);
        while (imports.find()) {
            Check.yes("import " + imports.group(1), List.of("java.util.Arrays", "java.util.ArrayList", "java.util.List").contains(imports.group(1)));
        }
        for (int i = 0; i < source.length(); i++) {
            if (source.charAt(i) > 126) {
                Check.yes("sign " + i + " of the source is 1 to 126", false);
            }
        }
        methodLengths(source.split("\n"));
    }

    /** A method begins where a line at its indent opens a brace, and ends where one closes it. */
    private static void methodLengths(String[] lines) {
        int from = -1;
        String indent = "";
        for (int i = 0; i < lines.length; i++) {
            Matcher open = Pattern.compile("^( {4}| {8})\\S[^=]*\\) \\{$").matcher(lines[i]);
            if (from < 0 && open.find() && !lines[i].contains(" if ") && !lines[i].contains(" for ")) {
                from = i;
                indent = open.group(1);
            } else if (from >= 0 && lines[i].equals(indent + "}")) {
                Check.yes("method at line " + (from + 1) + " has " + (i - from + 1) + " lines", i - from + 1 <= 60);
                from = -1;
            }
        }
    }
}
