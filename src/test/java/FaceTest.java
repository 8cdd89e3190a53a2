import java.io.IOException;
import java.lang.reflect.Constructor;
import java.lang.reflect.Field;
import java.lang.reflect.Member;
import java.lang.reflect.Method;
import java.lang.reflect.Modifier;
import java.nio.charset.StandardCharsets;
import java.nio.file.Files;
import java.nio.file.Path;
import java.util.Arrays;
import java.util.List;
import java.util.Set;
import java.util.TreeSet;

/** The class shows the document's face and nothing else (LANGUAGE.md, rules 1, 2, 5, 11). */
public final class FaceTest {
    private static final String[] FACE = {
        "SurpriseTax()", "UNKNOWN", "BAD", "LATE", "FULL", "NONE",
        "int write(int)", "int wipe()", "int fault()", "int realm()", "int about(int)", "int person(int,int)",
        "int declare(int,int)", "int tellOn(int,int)", "int event(int)", "int undo()",
        "int tax(int,int)", "int mean(int,boolean)", "int counsel(int)", "int least(int,int,boolean)",
        "int joke(int,int)", "int jokeAt(int,int,int)", "int broke(int)", "int reform(int)",
        "int roll(int,int)", "int unroll()", "int tales(int)", "int school(int,int,int,int)", "int braced(int)",
        "int fair(int,int,int)", "int courier(int)", "long seed(long)", "int week(int)",
        "int keep(int)", "int again(int)"};

    /** "Ahead of the calls .. the interface says: ---- ..", and the calls behind each. */
    private static final String[] SECTIONS = {
        "---- the realm", "write", "wipe", "fault", "realm", "about", "person",
        "---- acts", "declare", "tellOn", "event", "undo",
        "---- what is paid", "tax", "mean", "counsel", "least", "joke", "jokeAt", "broke", "reform",
        "---- rolls, schools, nerves", "roll", "unroll", "tales", "school", "braced", "fair", "courier", "seed", "week",
        "---- slots", "keep", "again"};

    private final Due due = new Due("FaceTest");

    public static void main(String[] args) throws IOException {
        FaceTest test = new FaceTest();
        test.face();
        test.kindsOfMembers();
        test.sections(Files.readString(Path.of("src/main/java/SurpriseTax.java"), StandardCharsets.ISO_8859_1));
        test.classesInside();
        test.due.end();
    }

    private void face() {
        Class<?> c = SurpriseTax.class;
        due.holds("public and final", Modifier.isPublic(c.getModifiers()) && Modifier.isFinal(c.getModifiers()));
        Set<String> shown = new TreeSet<>();
        for (Constructor<?> made : c.getDeclaredConstructors()) shown.add(told(made, "SurpriseTax", made.getParameterTypes()));
        for (Method m : c.getDeclaredMethods()) {
            if (!Modifier.isPrivate(m.getModifiers())) shown.add(told(m, m.getReturnType() + " " + m.getName(), m.getParameterTypes()));
        }
        for (Field f : c.getDeclaredFields()) {
            if (!Modifier.isPrivate(f.getModifiers())) shown.add(f.getName());
        }
        Set<String> wanted = new TreeSet<>(List.of(FACE));
        for (String name : wanted) due.holds("there is " + name, shown.contains(name));
        for (String name : shown) due.holds("the document has " + name, wanted.contains(name));
    }

    private String told(Member member, String name, Class<?>[] types) {
        due.holds(name + " is public or private", Modifier.isPublic(member.getModifiers()));
        StringBuilder all = new StringBuilder(name).append('(');
        for (Class<?> type : types) all.append(all.charAt(all.length() - 1) == '(' ? "" : ",").append(type.getName());
        return all.append(')').toString();
    }

    private void kindsOfMembers() {
        Class<?> c = SurpriseTax.class;
        due.holds("no package", c.getPackageName().isEmpty());
        due.holds("stands for itself", c.getSuperclass() == Object.class && c.getInterfaces().length == 0);
        due.is("constructors", c.getDeclaredConstructors().length, 1);
        due.is("constants", c.getFields().length, 5);
        for (Field f : c.getFields()) {
            int all = Modifier.PUBLIC | Modifier.STATIC | Modifier.FINAL;
            due.holds(f + " is a constant of int", f.getModifiers() == all && f.getType() == int.class);
        }
        for (Method m : c.getDeclaredMethods()) {
            if (!Modifier.isPublic(m.getModifiers())) continue;
            due.holds(m + " is of an object", !Modifier.isStatic(m.getModifiers()));
            due.holds(m + " tells of no exception", m.getExceptionTypes().length == 0);
        }
    }

    /** The program's text has the calls in the document's order, and its words ahead of them. */
    private void sections(String text) {
        int from = 0;
        for (String told : SECTIONS) {
            boolean isCall = !told.startsWith("-");
            int at = isCall ? indexOfCall(text, told) : text.indexOf("    // " + told + "\n");
            due.holds(told + " stands in its place", at > from);
            from = at;
        }
    }

    private static int indexOfCall(String text, String name) {
        return Math.max(text.indexOf("    public int " + name + "("), text.indexOf("    public long " + name + "("));
    }

    private void classesInside() {
        Class<?>[] inside = SurpriseTax.class.getDeclaredClasses();
        due.holds("some twelve classes at most", inside.length <= 12);
        fields(SurpriseTax.class);
        ownNames(SurpriseTax.class);
        for (Class<?> c : inside) {
            due.holds(c + " is static", Modifier.isStatic(c.getModifiers()));
            due.holds(c + " is not public", !Modifier.isPublic(c.getModifiers()));
            due.holds(c + " is not protected", !Modifier.isProtected(c.getModifiers()));
            fields(c);
            ownNames(c);
        }
    }

    private void fields(Class<?> c) {
        long own = Arrays.stream(c.getDeclaredFields()).filter(f -> !Modifier.isStatic(f.getModifiers())).count();
        due.holds(c + " has some twenty fields at most", own <= 20);
        for (Field f : c.getDeclaredFields()) {
            boolean isFinal = Modifier.isFinal(f.getModifiers());
            due.holds(f + " is final if it is static", isFinal || !Modifier.isStatic(f.getModifiers()));
        }
        for (Method m : c.getDeclaredMethods()) due.holds(m + " has seven parameters at most", m.getParameterCount() <= 7);
    }

    /** No private method bears the name of a public one. */
    private void ownNames(Class<?> c) {
        for (Method m : c.getDeclaredMethods()) {
            if (!Modifier.isPrivate(m.getModifiers())) continue;
            boolean isTaken = Arrays.stream(SurpriseTax.class.getDeclaredMethods()).anyMatch(o -> !o.equals(m) && o.getName().equals(m.getName()));
            due.holds(m + " has a name of its own", !isTaken);
        }
    }
}
