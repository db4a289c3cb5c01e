import java.io.IOException;
import java.lang.reflect.Executable;
import java.lang.reflect.Field;
import java.lang.reflect.Method;
import java.lang.reflect.Modifier;
import java.nio.charset.StandardCharsets;
import java.nio.file.Files;
import java.nio.file.Path;
import java.util.ArrayList;
import java.util.Arrays;
import java.util.List;
import java.util.Set;
import java.util.TreeSet;
import java.util.regex.Matcher;
import java.util.regex.Pattern;

/** The document's face and what can be seen of the language's rules. */
public final class LanguageTest {
    private static final Due DUE = new Due("LanguageTest");
    private static final Path SOURCE = Path.of("src/main/java/WovenKeeper.java");
    private static final Path DOCUMENT = Path.of("../shared/DOC.md");

    public static void main(String[] args) throws IOException {
        String source = Files.readString(SOURCE, StandardCharsets.ISO_8859_1);
        List<Class<?>> classes = new ArrayList<>();
        classes.add(WovenKeeper.class);
        classes.addAll(Arrays.asList(WovenKeeper.class.getDeclaredClasses()));
        face(Files.readString(DOCUMENT));
        insides(classes);
        words(source);
        lengths(source);
        DUE.close();
    }

    private static String plain(Method m) {
        StringBuilder b = new StringBuilder(m.getReturnType().getSimpleName()).append(' ').append(m.getName());
        for (Class<?> p : m.getParameterTypes()) {
            b.append(' ').append(p.getSimpleName());
        }
        for (Class<?> e : m.getExceptionTypes()) {
            b.append(" throws ").append(e.getSimpleName());
        }
        return b.toString();
    }

    private static void face(String document) {
        Set<String> due = new TreeSet<>();
        Matcher m = Pattern.compile("(?m)^    public (int|long|boolean) (\\w+)\\((.*?)\\)( throws \\w+)?;$").matcher(document);
        while (m.find()) {
            String parts = m.group(3).replaceAll("int \\w+,? ?", " int");
            due.add(m.group(1) + ' ' + m.group(2) + parts + (m.group(4) == null ? "" : m.group(4)));
        }
        DUE.is("methods that the document has", due.size(), 38);
        Set<String> got = new TreeSet<>();
        for (Method method : WovenKeeper.class.getDeclaredMethods()) {
            if (!Modifier.isPrivate(method.getModifiers())) {
                DUE.is(method + " is public", Modifier.isPublic(method.getModifiers()), true);
                got.add(plain(method));
            }
        }
        DUE.isText("the face", got.toString(), due.toString());
        DUE.is("the class is public and final", WovenKeeper.class.getModifiers(), Modifier.PUBLIC | Modifier.FINAL);
        DUE.is("constructors", WovenKeeper.class.getDeclaredConstructors().length, 1);
        for (Field f : WovenKeeper.class.getDeclaredFields()) {
            DUE.is(f + " is private", Modifier.isPrivate(f.getModifiers()), !f.getName().equals("NONE"));
        }
    }

    private static void insides(List<Class<?>> classes) {
        Set<String> names = new TreeSet<>();
        for (Method m : WovenKeeper.class.getMethods()) {
            names.add(m.getName());
        }
        DUE.is("some twelve classes at most", classes.size() <= 12, true);
        for (Class<?> c : classes) {
            int own = 0;
            for (Field f : c.getDeclaredFields()) {
                own += Modifier.isStatic(f.getModifiers()) ? 0 : 1;
                boolean free = Modifier.isStatic(f.getModifiers()) && !Modifier.isFinal(f.getModifiers());
                DUE.is(f + " is no static state", free, false);
            }
            DUE.is(c + " has some twenty fields at most", own <= 20, true);
            List<Executable> all = new ArrayList<>(Arrays.asList(c.getDeclaredMethods()));
            all.addAll(Arrays.asList(c.getDeclaredConstructors()));
            for (Executable e : all) {
                DUE.is(e + " has seven parameters at most", e.getParameterCount() <= 7, true);
                boolean open = c == WovenKeeper.class && Modifier.isPublic(e.getModifiers());
                DUE.is(e + " has a name of its own", !open && names.contains(e.getName()), false);
            }
            if (c != WovenKeeper.class) {
                DUE.is(c + " is static", Modifier.isStatic(c.getModifiers()), true);
                DUE.is(c + " is not open", Modifier.isPublic(c.getModifiers()) || Modifier.isProtected(c.getModifiers()), false);
            }
        }
    }

    private static void words(String source) {
        String code = source.replaceAll("(?s)/\\*.*?\\*/", "").replaceAll("//.*", "");
        String[] none = {"->", "::", "\\btry\\b", "\\bcatch\\b", "\\bfinally\\b", "\\bsynchronized\\b", "\\bassert\\b", "Exact\\(",
            "\\bpackage\\b", "\\bfloat\\b", "\\bdouble\\b", "System\\.(?!arraycopy)", "\\bRandom\\b", "MAX_VALUE", "MIN_VALUE",
            "Arrays\\.(?!fill\\()", "String\\[", "boolean\\[\\]\\[", "\\bvar\\b", "\\bhashCode\\b", "\\btoString\\b"};
        for (String word : none) {
            DUE.is("the source has " + word, Pattern.compile(word).matcher(code).find(), false);
        }
        for (int i = 0; i < source.length(); i++) {
            char c = source.charAt(i);
            if (c != '\n' && (c < 32 || c > 126)) {
                DUE.is("sign " + (int) c + " at " + i, true, false);
            }
        }
        Matcher m = Pattern.compile("(?m)^import (.*);$").matcher(source);
        Set<String> imports = new TreeSet<>();
        while (m.find()) {
            imports.add(m.group(1));
        }
        DUE.isText("imports", imports.toString(), "[java.util.Arrays, java.util.NoSuchElementException]");
    }

    /** A method opens and closes at one depth; what lies between is its length. */
    private static void lengths(String source) {
        String[] lines = source.split("\n");
        for (int i = 0; i < lines.length; i++) {
            Matcher m = Pattern.compile("^( {4}| {8})(?!private static final class)\\w[^=;]*\\) *(throws \\w+ )?\\{$").matcher(lines[i]);
            if (m.matches()) {
                int end = i + 1;
                while (end < lines.length && !lines[end].equals(m.group(1) + "}")) {
                    end++;
                }
                DUE.is("some sixty lines at most: " + lines[i], end - i <= 60, true);
                DUE.is("the method closes: " + lines[i], end < lines.length, true);
            }
        }
    }
}
