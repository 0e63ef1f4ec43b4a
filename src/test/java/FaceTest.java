import java.lang.reflect.Constructor;
import java.lang.reflect.Field;
import java.lang.reflect.Method;
import java.lang.reflect.Modifier;
import java.nio.file.Files;
import java.nio.file.Path;
import java.util.ArrayList;
import java.util.List;
import java.util.Set;
import java.util.TreeSet;
import java.util.regex.Matcher;
import java.util.regex.Pattern;

/** The face of the document as it can be seen from outside, and the headings ahead of its calls. */
final class FaceTest {
    private static final Due due = new Due();
    private static final String[] FACE = {
        "dark(int)int", "now(int)int", "child(int)int", "of(int,int)int", "set(int,int,int)int", "turn(int,int)int", "as(int,int)int",
        "push(int,int)int", "swap(int,int)int", "minutes(int)int", "on(int,int,int)int", "owes(int,int)int", "level()int",
        "comes(int,int)int", "dust(int)int", "place(int,int)int", "kind(int,int)int", "marbles(int,int,int)int", "night(int)int",
        "enough(int,int,int)int", "whom(int,int)int", "debtor(int)int", "feed(int,int)int", "wipe()int", "ground()int",
        "sheet(int,int,int)int", "write(int,int,long)long", "copy(int,int,int,int,int)int", "lays(int)int", "book(int,int)int",
        "read(int,int,int)int", "image()int", "undo()int", "tear()int", "count(int)int", "status(int)int"};

    private static final String[][] SECTIONS = {
        {"the ground", "dark", "now"},
        {"children", "child", "of", "set", "turn", "as", "push", "swap"},
        {"minutes", "minutes", "on", "owes", "level", "comes", "dust"},
        {"what is best", "place", "kind", "marbles", "night", "enough", "whom", "debtor"},
        {"the text", "feed", "wipe", "ground"},
        {"sheets", "sheet", "write", "copy", "lays", "book", "read"},
        {"images", "image", "undo", "tear", "count", "status"}};
    private static final Pattern CALL = Pattern.compile("^    public (?:int|long) (\\w+)\\(");

    public static void main(String[] args) throws Exception {
        face();
        nested();
        headings();
        due.end();
    }

    private static String told(Method m) {
        StringBuilder told = new StringBuilder(m.getName()).append('(');
        for (Class<?> type : m.getParameterTypes()) {
            told.append(told.charAt(told.length() - 1) == '(' ? "" : ",").append(type.getName());
        }
        return told.append(')').append(m.getReturnType().getName()).toString();
    }

    private static void face() {
        Set<String> want = new TreeSet<>(Set.of(FACE));
        Set<String> names = new TreeSet<>();
        Set<String> is = new TreeSet<>();
        for (Method m : OwingSwings.class.getDeclaredMethods()) {
            if (Modifier.isPublic(m.getModifiers())) {
                is.add(told(m));
                names.add(m.getName());
            }
        }
        due.same("the face is " + is, is.equals(want) ? 1 : 0, 1);
        for (Method m : OwingSwings.class.getDeclaredMethods()) {
            boolean isOwn = Modifier.isPrivate(m.getModifiers()) && !names.contains(m.getName());
            due.same(m + " is public or private with a name of its own", Modifier.isPublic(m.getModifiers()) || isOwn ? 1 : 0, 1);
        }
        for (Field f : OwingSwings.class.getDeclaredFields()) {
            due.same(f + " is private", Modifier.isPrivate(f.getModifiers()) ? 1 : 0, 1);
        }
        Constructor<?>[] made = OwingSwings.class.getDeclaredConstructors();
        due.same("one constructor", made.length, 1);
        due.same("public, without arguments", Modifier.isPublic(made[0].getModifiers()) ? made[0].getParameterCount() : -1, 0);
        due.same("final", Modifier.isFinal(OwingSwings.class.getModifiers()) ? 1 : 0, 1);
    }

    private static void nested() {
        Class<?>[] inside = OwingSwings.class.getDeclaredClasses();
        due.same("few classes", inside.length <= 11 ? 1 : 0, 1);
        for (Class<?> c : inside) {
            due.same(c + " is static", Modifier.isStatic(c.getModifiers()) ? 1 : 0, 1);
            for (Field f : c.getDeclaredFields()) {
                boolean isFine = !Modifier.isStatic(f.getModifiers()) || Modifier.isFinal(f.getModifiers());
                due.same(f + " is final if static", isFine ? 1 : 0, 1);
            }
        }
    }

    /** "Ahead of the calls .. the interface says: ---- ..": each under its heading, in the order of the document. */
    private static void headings() throws Exception {
        List<String> is = new ArrayList<>();
        String heading = "";
        for (String line : Files.readAllLines(Path.of("src/main/java/OwingSwings.java"))) {
            Matcher call = CALL.matcher(line);
            if (line.startsWith("    // ---- ")) {
                heading = line.substring(7);
            } else if (call.find()) {
                is.add(heading + ": " + call.group(1));
            }
        }
        List<String> want = new ArrayList<>();
        for (String[] section : SECTIONS) {
            for (int i = 1; i < section.length; i++) {
                want.add("---- " + section[0] + ": " + section[i]);
            }
        }
        due.same("calls under headings", is.size(), want.size());
        for (int i = 0; i < Math.min(is.size(), want.size()); i++) {
            due.same("the source says '" + is.get(i) + "', the document '" + want.get(i) + "'", is.get(i).equals(want.get(i)) ? 1 : 0, 1);
        }
    }
}
