import java.io.IOException;
import java.lang.reflect.Constructor;
import java.lang.reflect.Field;
import java.lang.reflect.Method;
import java.lang.reflect.Modifier;
import java.nio.charset.StandardCharsets;
import java.nio.file.Files;
import java.nio.file.Path;
import java.util.Arrays;
import java.util.HashSet;
import java.util.Set;
import java.util.TreeSet;
import java.util.regex.Matcher;
import java.util.regex.Pattern;

/** The public face is the document's, and the source keeps to what of LANGUAGE.md can be seen in its text. */
public final class FaceTest {
    private static final Check CHECK = new Check("FaceTest");
    private static final String[] FACE = {"feed(long,long,long)int", "town()int", "year()int", "high()int", "person(int,int)int",
        "lose(int,int)int", "get(int,int)int", "spare(int)int", "feel(int,int)boolean", "day()int", "undo()boolean",
        "judged(int)int", "later(int)int", "sill(int)int", "moves(int)int", "settled()int", "lowest()int", "spared(int)int",
        "least(int,int)int", "cost(int)int", "heavy()int", "see(int,int)boolean", "ways(int)int", "look()int",
        "measure(int,int)boolean", "rules(int)int", "reach(int)int", "through(int,int)int", "groups()int", "deaf()int",
        "alike()int", "worse()int", "mean()int", "rises(int)int", "turn()int", "range(int)int", "faith(int)int",
        "blame(int)int", "hearts(int)int", "pair()int", "even()int", "chance(int,int,int,int)int",
        "rests(int,int,int,int)int", "years(int,int,int)int", "mark(int,boolean)boolean", "count(int)int"};

    public static void main(String[] args) throws IOException {
        publicMembers();
        innerClasses();
        source();
        documentsFace();
        CHECK.finish();
    }

    private static void publicMembers() {
        Set<String> found = new TreeSet<>();
        Set<String> publicNames = new HashSet<>();
        for (Method m : HalfMast.class.getDeclaredMethods()) {
            if (!Modifier.isPrivate(m.getModifiers())) {
                StringBuilder text = new StringBuilder(m.getName()).append('(');
                for (Class<?> type : m.getParameterTypes()) {
                    text.append(text.charAt(text.length() - 1) == '(' ? "" : ",").append(type.getName());
                }
                found.add(text.append(')').append(m.getReturnType().getName()).toString());
                publicNames.add(m.getName());
                CHECK.due("public " + m, Modifier.isPublic(m.getModifiers()) && !Modifier.isStatic(m.getModifiers()), true);
            }
        }
        CHECK.due("the methods " + found, found.equals(new TreeSet<>(Arrays.asList(FACE))), true);
        for (Class<?> type : HalfMast.class.getDeclaredClasses()) {
            noPublicName(type, publicNames);
        }
        noPublicName(HalfMast.class, publicNames);
        int constants = 0;
        for (Field f : HalfMast.class.getDeclaredFields()) {
            constants += Modifier.isPrivate(f.getModifiers()) ? 0 : 1;
            CHECK.due("static and not final " + f, Modifier.isStatic(f.getModifiers()) && !Modifier.isFinal(f.getModifiers()), false);
        }
        CHECK.due("one constant", constants, 1);
        CHECK.due("NONE", HalfMast.NONE, -1);
        Constructor<?>[] all = HalfMast.class.getDeclaredConstructors();
        CHECK.due("one constructor", all.length == 1 && Modifier.isPublic(all[0].getModifiers())
                && all[0].getParameterCount() == 0, true);
        CHECK.due("final", Modifier.isFinal(HalfMast.class.getModifiers()), true);
    }

    private static void noPublicName(Class<?> type, Set<String> names) {
        for (Method m : type.getDeclaredMethods()) {
            boolean own = type == HalfMast.class && Modifier.isPublic(m.getModifiers());
            CHECK.due(m + " bears a public one's name", !own && names.contains(m.getName()), false);
            CHECK.due(m + " takes more than seven", m.getParameterCount() > 7, false);
        }
    }

    private static void innerClasses() {
        CHECK.due("some twelve classes", HalfMast.class.getDeclaredClasses().length <= 11, true);
        for (Class<?> type : HalfMast.class.getDeclaredClasses()) {
            CHECK.due(type + " is static", Modifier.isStatic(type.getModifiers()), true);
            int fields = 0;
            for (Field f : type.getDeclaredFields()) {
                boolean fixed = Modifier.isStatic(f.getModifiers());
                fields += fixed ? 0 : 1;
                CHECK.due("static and not final " + f, fixed && !Modifier.isFinal(f.getModifiers()), false);
            }
            CHECK.due(type + " has some twenty fields", fields <= 20, true);
        }
    }

    private static void source() throws IOException {
        String whole = Files.readString(Path.of("src/main/java/HalfMast.java"), StandardCharsets.US_ASCII);
        String code = whole.replaceAll("(?s)/\\*.*?\\*/", "").replaceAll("//[^\n]*", "");
        String bare = code.replaceAll("\"[^\"\n]*\"", "\"\"");
        for (String word : new String[] {"->", "::", "\\bfinally\\b", "\\bsynchronized\\b", "\\bassert\\b", "\\bcatch\\b", "\\btry\\b",
            "\\bprotected\\b", "Exact\\b", "\\bstatic \\{", "\\bpackage\\b", "\\bdouble\\b", "\\bfloat\\b", "\\bvolatile\\b",
            "\\bSystem\\.(?!arraycopy)", "\"\" \\+", "\\+ \"\"", "\\bhashCode\\b", "\\btoString\\b", "\\bObject\\b", "\\bvar\\b"}) {
            Matcher found = Pattern.compile(word).matcher(bare);
            CHECK.due("the source has " + word, found.find(), false);
        }
        Matcher imports = Pattern.compile("import ([^;]+);").matcher(code);
        while (imports.find()) {
            CHECK.due("import " + imports.group(1),
                    Set.of("java.util.Arrays", "java.util.NoSuchElementException").contains(imports.group(1)), true);
        }
    }

    /** Every line of the document's own class, as it stands there, is a line of the source but for its end. */
    private static void documentsFace() throws IOException {
        Path place = Path.of("../shared/DOC.md");
        if (!Files.exists(place)) {
            System.out.println("FaceTest: the face is not looked up: no DOC.md");
            return;
        }
        String source = Files.readString(Path.of("src/main/java/HalfMast.java"), StandardCharsets.US_ASCII);
        int members = 0;
        for (String line : Files.readString(place, StandardCharsets.UTF_8).split("\n")) {
            if (line.startsWith("    public ") && line.endsWith(";")) {
                members++;
                boolean constant = line.contains("=");
                String due = constant ? line : line.substring(0, line.length() - 1) + " {";
                CHECK.due("the source has: " + due, source.contains("\n" + due + "\n"), true);
            }
        }
        CHECK.due("all members of the document's face were looked up", members, FACE.length + 2);
    }
}
