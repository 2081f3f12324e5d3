import java.io.IOException;
import java.lang.reflect.Constructor;
import java.lang.reflect.Field;
import java.lang.reflect.Method;
import java.lang.reflect.Modifier;
import java.nio.charset.StandardCharsets;
import java.nio.file.Files;
import java.nio.file.Path;
import java.util.ArrayList;
import java.util.Collections;
import java.util.HashSet;
import java.util.List;
import java.util.Set;
import java.util.regex.Matcher;
import java.util.regex.Pattern;

/** The rules of ../shared/LANGUAGE.md that can be looked up: the face, banned words, classes, depth. */
public final class RulesTests {
    private static final String[] FACE = {
        "type(int,int):int", "wipe(int):int", "undo(int):int", "fault(int):int", "gone(int,int):int",
        "need(int,int):int", "event(int,int,int):int", "back():int", "read(int):int", "at(int,int,int):int",
        "field(int,int,int):int", "up(int,int):int", "met(int):int", "stood(int):int", "wrongly():int",
        "first(int):int", "gate():int", "rest():int", "plough(int,int):int", "lie(int,int):int",
        "when(int,int):int", "spare(int):int", "seen(int,int,int):int", "forget():int", "never():int",
        "was(int,int):int", "ask(int):int", "chance(int,int,int):long", "years(int,int,int):int",
        "sheet(int,int,int):int", "lose(int):int", "put(int,int,int,int):int", "get(int,int,int):int",
        "copy(int,int,int,int,int):int", "write(int,int):int", "count(int):int", "digest():long"};

    private RulesTests() {
    }

    public static void main(String[] args) throws IOException {
        face();
        classesInside();
        String source = Files.readString(Path.of("src/main/java/PloughTurns.java"), StandardCharsets.ISO_8859_1);
        words(source);
        oftenMade();
        Check.close();
    }

    private static String signature(Method m) {
        List<String> types = new ArrayList<>();
        for (Class<?> type : m.getParameterTypes()) {
            types.add(type.getName());
        }
        return m.getName() + "(" + String.join(",", types) + "):" + m.getReturnType().getName();
    }

    private static void face() {
        List<String> shown = new ArrayList<>();
        for (Method m : PloughTurns.class.getDeclaredMethods()) {
            if (!Modifier.isPrivate(m.getModifiers()) && !m.isSynthetic()) {
                shown.add(signature(m));
                Check.holds("public, not static: " + m, m.getModifiers() == Modifier.PUBLIC);
            }
        }
        List<String> due = new ArrayList<>(List.of(FACE));
        Collections.sort(shown);
        Collections.sort(due);
        Check.holds("rule 1, the methods: " + shown, shown.equals(due));
        Constructor<?>[] made = PloughTurns.class.getDeclaredConstructors();
        Check.holds("rule 1, one constructor", made.length == 1 && made[0].getParameterCount() == 0
            && Modifier.isPublic(made[0].getModifiers()));
        Set<String> constants = new HashSet<>();
        for (Field f : PloughTurns.class.getDeclaredFields()) {
            if (!Modifier.isPrivate(f.getModifiers())) {
                constants.add(f.getName());
            }
            Check.holds("rule 5: " + f, !Modifier.isStatic(f.getModifiers()) || Modifier.isFinal(f.getModifiers()));
        }
        Check.holds("rule 1, the constants", constants.equals(Set.of("NONE", "BAD", "NOT", "FULL")));
    }

    private static void classesInside() {
        Set<String> faceNames = new HashSet<>();
        for (String s : FACE) {
            faceNames.add(s.substring(0, s.indexOf('(')));
        }
        List<Class<?>> all = new ArrayList<>(List.of(PloughTurns.class.getDeclaredClasses()));
        Check.holds("rule 11, some twelve classes", all.size() <= 11);
        for (Class<?> c : all) {
            Check.holds("rule 2, static: " + c, Modifier.isStatic(c.getModifiers()) && !Modifier.isPublic(c.getModifiers()));
            for (Method m : c.getDeclaredMethods()) {
                Check.holds("rule 1, no such name: " + m, !faceNames.contains(m.getName()));
                Check.holds("rule 11, seven parameters: " + m, m.getParameterCount() <= 7);
            }
        }
        for (Method m : PloughTurns.class.getDeclaredMethods()) {
            Check.holds("rule 1, no such name: " + m,
                Modifier.isPublic(m.getModifiers()) || !faceNames.contains(m.getName()));
        }
    }

    private static void words(String source) {
        for (int i = 0; i < source.length(); i++) {
            char ch = source.charAt(i);
            if (ch > 126 || ch < 32 && ch != '\n') {
                Check.is("a sign outside ASCII at", i, -1);
            }
        }
        String code = source.replaceAll("(?s)/\\*.*?\\*/", " ").replaceAll("//[^\n]*", " ");
        String banned = "\\b(throw|throws|try|catch|finally|synchronized|assert|import|package|instanceof|System\\.(?!arraycopy)"
            + "|Object|Thread|record|float|double|hashCode|toString|equals|volatile|native|transient)\\b|->|::|@";
        Matcher m = Pattern.compile(banned).matcher(code);
        while (m.find()) {
            Check.holds("rules 2 to 6, a banned word: " + m.group(), false);
        }
        Matcher library = Pattern.compile("\\b(Integer|Long|Math|System|Arrays|String|StringBuilder|ArrayList|List)\\b(\\.\\w+)?")
            .matcher(code);
        while (library.find()) {
            Check.holds("rule 4, of the library: " + library.group(),
                Set.of("Integer.bitCount", "Math.min", "Math.max", "System.arraycopy").contains(library.group()));
        }
        Check.holds("rule 9, loops with a bound alone", !Pattern.compile("\\bwhile\\b|for \\(;").matcher(code).find());
        Matcher made = Pattern.compile("\\bnew int\\[").matcher(code);
        while (made.find()) {
            String line = code.substring(code.lastIndexOf('\n', made.start()) + 1, made.start());
            Check.holds("a row made outside a field: " + line, line.contains("final int[]"));
        }
    }

    /** Every call of a run lives in one room: calls must not need more of it from one to the next. */
    private static void oftenMade() {
        PloughTurns x = Check.made("d001;c105;r209;d302;c401;r503;d011;c119", "0a1;1b2;2c3;3d4;4e5;5f6;6g7;7x9",
            0, 9, 0, 0, 10, 1, 0, 11, 0, 1, 12, 0, 0, 13, 0);
        long first = x.digest();
        for (int n = 0; n < 200; n++) {
            x.sheet(n % 4, n % 3, n % 61);
            Check.is("digest again", x.digest(), first);
        }
    }
}
