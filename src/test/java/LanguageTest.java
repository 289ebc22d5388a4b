import java.lang.reflect.Constructor;
import java.lang.reflect.Field;
import java.lang.reflect.Method;
import java.lang.reflect.Modifier;
import java.nio.file.Files;
import java.nio.file.Path;
import java.util.Arrays;
import java.util.List;
import java.util.Set;
import java.util.TreeSet;
import java.util.regex.Pattern;

/** The rules of ../shared/LANGUAGE.md that can be seen in the source or in the compiled class. */
public final class LanguageTest {
    private static final String[] FACE = {"hand int int:int", "cow int int:int", "gate int boolean:boolean",
        "feed int int int int int:int", "end int:int", "text:int", "fault int:int", "by int:boolean",
        "plant int:boolean", "cut int:boolean", "press int int:boolean", "go int int:int", "hour int:int",
        "played int:int", "years int int:int", "undo:int", "of int int:int", "cell int int:int", "hedge int int:int",
        "between int int:int", "is int:int", "book int int:int", "foretold int int:int", "miles int int:int",
        "way int int int:int", "cuts int int:int", "farthest int:int", "wide:int", "regions boolean:int", "rings:int",
        "ends:int", "necks:int", "paths int int:long", "walk int boolean:int", "home int:int", "gates int boolean:int",
        "turned int int boolean:int", "unlike int boolean:int", "owner int:int", "twins int int:int", "kinds:int",
        "selves int:int", "look int:int", "said int int:int", "whose:int", "thickest:int", "ledger int:int",
        "image:int", "back:int", "about int:int"};
    private static final String[] FORBIDDEN = {"\\bthrow\\b", "\\bthrows\\b", "\\btry\\b", "\\bcatch\\b",
        "\\bfinally\\b", "\\bsynchronized\\b", "\\bassert\\b", "\\bimport\\b", "\\bpackage\\b", "->", "::",
        "\\bdouble\\b", "\\bfloat\\b", "\\bnative\\b", "\\bvolatile\\b", "\\btransient\\b", "\\w+Exact\\b",
        "\\bSystem\\.(?!arraycopy\\b)", "static\\s*\\{", "\\binstanceof\\b", "\\bhashCode\\b", "\\btoString\\b",
        "\\bObject\\b", "\\bThread\\b", "\\bvar\\b", "@", "\"\\s*\\+", "\\+\\s*\""};

    public static void main(String[] args) throws Exception {
        face();
        for (Class<?> one : ThumbHedges.class.getDeclaredClasses()) {
            inside(one);
        }
        Check.due("classes", ThumbHedges.class.getDeclaredClasses().length <= 11, true);
        statics(ThumbHedges.class);
        source(Files.readString(Path.of("src/main/java/ThumbHedges.java")));
        Check.end("LanguageTest");
    }

    private static void face() {
        Class<?> c = ThumbHedges.class;
        Check.due("public and final", Modifier.isPublic(c.getModifiers()) && Modifier.isFinal(c.getModifiers()), true);
        Set<String> found = new TreeSet<>();
        Set<String> publicNames = new TreeSet<>();
        for (Method m : c.getDeclaredMethods()) {
            if (Modifier.isPublic(m.getModifiers())) {
                StringBuilder said = new StringBuilder(m.getName());
                for (Class<?> type : m.getParameterTypes()) {
                    said.append(' ').append(type);
                }
                found.add(said.append(':').append(m.getReturnType()).toString());
                publicNames.add(m.getName());
                Check.due(m + " is no static one", Modifier.isStatic(m.getModifiers()), false);
            }
        }
        Check.due("the face: " + found, found.equals(new TreeSet<>(Arrays.asList(FACE))), true);
        for (Method m : c.getDeclaredMethods()) {
            if (!Modifier.isPublic(m.getModifiers())) {
                Check.due(m + " is private", Modifier.isPrivate(m.getModifiers()), true);
                Check.due(m + " has a name of its own", publicNames.contains(m.getName()), false);
            }
        }
        for (Class<?> one : c.getDeclaredClasses()) {
            for (Method m : one.getDeclaredMethods()) {
                Check.due(m + " has a name of its own", publicNames.contains(m.getName()), false);
            }
        }
        for (Field f : c.getDeclaredFields()) {
            boolean isNone = f.getName().equals("NONE");
            Check.due(f + " is seen or not", isNone ? Modifier.isPublic(f.getModifiers())
                    : Modifier.isPrivate(f.getModifiers()), true);
        }
        Constructor<?>[] made = c.getDeclaredConstructors();
        Check.due("constructors", made.length, 1);
        Check.due("constructor", made[0].getParameterCount(), 0);
    }

    private static void inside(Class<?> one) {
        int is = one.getModifiers();
        Check.due(one + " is static", Modifier.isStatic(is), true);
        Check.due(one + " is not seen", Modifier.isPublic(is) || Modifier.isProtected(is), false);
        statics(one);
    }

    private static void statics(Class<?> one) {
        List<Class<?>> fine = List.of(int.class, long.class, boolean.class, char.class, String.class, int[].class,
                long[].class, char[].class, byte[].class);
        int fields = 0;
        for (Field f : one.getDeclaredFields()) {
            if (Modifier.isStatic(f.getModifiers())) {
                Check.due(f + " is final", Modifier.isFinal(f.getModifiers()), true);
                Check.due(f + " is of a type that static fields may have", fine.contains(f.getType()), true);
            } else {
                fields++;
            }
        }
        Check.due(one + " has at most 20 fields", fields <= 20, true);
        for (Method m : one.getDeclaredMethods()) {
            Check.due(m + " takes at most seven", m.getParameterCount() <= 7, true);
        }
    }

    private static void source(String source) {
        for (int i = 0; i < source.length(); i++) {
            if (source.charAt(i) > 127) {
                Check.due("sign " + i + " of the source", source.charAt(i), 0);
            }
        }
        String code = source.replaceAll("(?s)/\\*.*?\\*/", "").replaceAll("//[^\n]*", "");
        for (String word : FORBIDDEN) {
            Check.due(word + " is found", Pattern.compile(word).matcher(code).find(), false);
        }
        methodLengths(code);
    }

    /** A method's lines, from its head to the brace that closes it. */
    private static void methodLengths(String code) {
        String[] lines = code.split("\n");
        Pattern head = Pattern.compile("^(    |        )[a-zA-Z][^=;]*\\(.*\\) \\{$");
        for (int i = 0; i < lines.length; i++) {
            if (head.matcher(lines[i]).matches() && !lines[i].trim().startsWith("return")) {
                String close = lines[i].replaceAll("\\S.*", "") + "}";
                int end = i;
                while (end < lines.length && !lines[end].equals(close)) {
                    end++;
                }
                Check.due("at most 60 lines: " + lines[i].trim() + " " + (end - i + 1), end - i + 1 <= 60, true);
            }
        }
    }
}
