import java.io.IOException;
import java.lang.reflect.Constructor;
import java.lang.reflect.Field;
import java.lang.reflect.Method;
import java.lang.reflect.Modifier;
import java.nio.file.Files;
import java.nio.file.Path;
import java.util.ArrayList;
import java.util.Arrays;
import java.util.HashSet;
import java.util.List;
import java.util.Set;
import java.util.TreeSet;
import java.util.regex.Matcher;
import java.util.regex.Pattern;

/** The face of the document, and what of the rules of LANGUAGE.md can be seen in the source. */
public final class LanguageTests {
    private static final Path SOURCE = Path.of("src/main/java/SnowTracks.java");

    private static final String FACE = "int row(int,int);int lay(int,int,int);int at(int,int);int tear(int);"
        + "int copy(int,int,int,int,int);int mean(int);int text(int,int);int put(int,int,int);int fault(int);"
        + "int pass(int);int track(int,int);int crossing(int);int mark(int,int);int wind(int);int fill(int,int);"
        + "int cross(int,int);int snow(int);int keep(int);int on(int);int ahead(int,int);int orders();"
        + "int first(int);int nth(int,int);int sure(int,int);int odds(int,int);int place(int);int judge(int);"
        + "int meet(int,int);int chain(int);int ring(int);int wrong();int twice();int look();int hide(int,int);"
        + "int people();int story(int);int hold(int);int believe(int);int walks(int,int,int);int asked();"
        + "long upper();long lower();int count(int);int finding();int findings(int);long digest()";

    private static int passed = 0;
    private static int failed = 0;

    private static void holds(String what, boolean so) {
        if (so) {
            passed++;
        } else {
            failed++;
            System.out.println("not so: " + what);
        }
    }

    public static void main(String[] args) throws IOException {
        String source = Files.readString(SOURCE);
        face();
        nestedClasses();
        words(source);
        lengths(source);
        System.out.println(passed + " passed, " + failed + " failed");
        if (failed != 0) {
            System.exit(1);
        }
    }

    private static String told(Method m) {
        List<String> types = new ArrayList<>();
        for (Class<?> c : m.getParameterTypes()) {
            types.add(c.getName());
        }
        return m.getReturnType().getName() + " " + m.getName() + "(" + String.join(",", types) + ")";
    }

    private static void face() {
        Class<?> c = SnowTracks.class;
        holds("public and final", c.getModifiers() == (Modifier.PUBLIC | Modifier.FINAL));
        Set<String> open = new TreeSet<>();
        Set<String> openNames = new HashSet<>();
        for (Method m : c.getDeclaredMethods()) {
            if (!Modifier.isPrivate(m.getModifiers())) {
                open.add(told(m));
                openNames.add(m.getName());
                holds(m + " is plainly public", m.getModifiers() == Modifier.PUBLIC);
            }
        }
        holds("the methods of the face, and no other: " + open, open.equals(new TreeSet<>(Arrays.asList(FACE.split(";")))));
        for (Method m : c.getDeclaredMethods()) {
            holds(m + " bears no public name", !Modifier.isPrivate(m.getModifiers()) || !openNames.contains(m.getName()));
        }
        Constructor<?>[] made = c.getDeclaredConstructors();
        holds("one public constructor", made.length == 1 && Modifier.isPublic(made[0].getModifiers())
            && made[0].getParameterCount() == 0);
        Set<String> constants = new TreeSet<>();
        for (Field f : c.getDeclaredFields()) {
            if (!Modifier.isPrivate(f.getModifiers())) {
                constants.add(f.getName());
            }
        }
        holds("the constants: " + constants,
            constants.equals(new TreeSet<>(List.of("BAD", "FULL", "FINDING", "STATE", "SPENT", "NONE"))));
        holds("their values", SnowTracks.BAD == -1 && SnowTracks.FULL == -2 && SnowTracks.FINDING == -3
            && SnowTracks.STATE == -4 && SnowTracks.SPENT == -6 && SnowTracks.NONE == -9);
    }

    private static void nestedClasses() {
        Class<?>[] inside = SnowTracks.class.getDeclaredClasses();
        holds("at most some twelve classes", inside.length < 12);
        List<Class<?>> all = new ArrayList<>(List.of(inside));
        all.add(SnowTracks.class);
        for (Class<?> c : all) {
            holds(c + " is static", c == SnowTracks.class || Modifier.isStatic(c.getModifiers()));
            int fields = 0;
            for (Field f : c.getDeclaredFields()) {
                boolean isStatic = Modifier.isStatic(f.getModifiers());
                fields += isStatic ? 0 : 1;
                holds(f + " is final if static", !isStatic || Modifier.isFinal(f.getModifiers()));
            }
            holds(c + " has at most twenty fields", fields <= 20);
            for (Method m : c.getDeclaredMethods()) {
                holds(m + " has at most seven parameters", m.getParameterCount() <= 7);
            }
        }
    }

    private static void words(String source) {
        String bare = source.replaceAll("(?s)/\\*.*?\\*/", "").replaceAll("//[^\n]*", "");
        String[] words = {"throw", "throws", "try", "catch", "synchronized", "assert", "package", "Object", "Math.*Exact",
            "System\\.(?!arraycopy)\\w+", "Thread", "Random", "hashCode", "toString", "NaN", "var", "native", "volatile"};
        for (String w : words) {
            holds("no " + w, !Pattern.compile("\\b" + w + "\\b").matcher(bare).find());
        }
        holds("no lambda", !bare.contains("->"));
        holds("no method reference", !bare.contains("::"));
        holds("no annotation", !bare.contains("@"));
        Matcher imports = Pattern.compile("import ([^;]*);").matcher(bare);
        while (imports.find()) {
            holds("import " + imports.group(1), imports.group(1).equals("java.util.Arrays"));
        }
        for (int i = 0; i < source.length(); i++) {
            if (source.charAt(i) > 127) {
                holds("plain signs alone at " + i, false);
            }
        }
    }

    /** Methods begin and end at the indents of this file's two levels of classes. */
    private static void lengths(String source) {
        String[] lines = source.split("\n");
        for (String indent : new String[] {"    ", "        "}) {
            int from = -1;
            for (int n = 0; n < lines.length; n++) {
                boolean begins = lines[n].matches(indent + "[a-zA-Z].*\\) \\{") && !lines[n].matches(" *(if|for|while|switch).*");
                if (begins) {
                    from = n;
                }
                if (from >= 0 && lines[n].equals(indent + "}")) {
                    holds("line " + (from + 1) + ": a short method", n - from < 60);
                    from = -1;
                }
            }
        }
    }
}
