import java.lang.reflect.Constructor;
import java.lang.reflect.Field;
import java.lang.reflect.Method;
import java.lang.reflect.Modifier;
import java.nio.charset.StandardCharsets;
import java.nio.file.Files;
import java.nio.file.Path;
import java.util.TreeSet;
import java.util.regex.Matcher;
import java.util.regex.Pattern;

/**
 * The public face is the document's and nothing more; a new object (promise 1) is a country without clauses.
 * The document's path is the argument.
 */
public final class FaceTest {
    private static final String[] FACE = {
        "int feed(int,int,int,int,int)", "int country(int)", "int law(int)", "int work(int)", "int book(int)",
        "int fault()", "int undo()", "int told(int)", "int field(int,int)", "int wire(int,int)", "int thing(int,int)",
        "int person(int,int)", "int toll(int,int)", "int would(int,int,int,int,int,int,int)", "boolean can(int,int)",
        "int ahead(int,int)", "int arrives(int,int)", "int waits(int,int)", "int grant(int,int)",
        "int pliers(int,int)", "int haul(int,int)", "int fits(int)", "int look(int)", "int parts(int)",
        "long tingle(int,int,int)", "int lean(int,int,int)", "int grace(int,int,int)", "int next(int)",
        "int harp(int)", "int stuck()", "int moved()", "int gates(int,int)", "int ground(int,int)",
        "int freest(int)", "int autumn(int,int,int,int)", "int span(int,int,int,int,int,int)", "int image()",
        "int restore()", "int status(int)", "int count(int)"};

    public static void main(String[] args) throws Exception {
        methodsAreTheDocuments();
        writtenAsInTheDocument(Path.of(args.length > 0 ? args[0] : "../shared/DOC.md"));
        nothingElseIsSeen();
        newObject();
        Check.end();
    }

    private static String told(Method method) {
        StringBuilder text = new StringBuilder();
        text.append(method.getReturnType()).append(' ').append(method.getName()).append('(');
        for (Class<?> type : method.getParameterTypes()) {
            text.append(text.charAt(text.length() - 1) == '(' ? "" : ",").append(type);
        }
        return text.append(')').toString();
    }

    private static void methodsAreTheDocuments() {
        TreeSet<String> due = new TreeSet<>(java.util.Arrays.asList(FACE));
        TreeSet<String> seen = new TreeSet<>();
        TreeSet<String> publicNames = new TreeSet<>();
        for (Method method : DeadWires.class.getDeclaredMethods()) {
            if (!Modifier.isPrivate(method.getModifiers())) {
                seen.add(told(method));
                publicNames.add(method.getName());
                Check.due(method + " is public", Modifier.isPublic(method.getModifiers()) ? 1 : 0, 1);
            }
        }
        Check.due("methods " + seen + " as " + due, seen.equals(due) ? 1 : 0, 1);
        for (Method method : DeadWires.class.getDeclaredMethods()) {
            boolean hidden = Modifier.isPrivate(method.getModifiers());
            Check.due(method + " bears a public name", hidden && publicNames.contains(method.getName()) ? 1 : 0, 0);
        }
        for (Class<?> inside : DeadWires.class.getDeclaredClasses()) {
            Check.due(inside + " is static", Modifier.isStatic(inside.getModifiers()) ? 1 : 0, 1);
            for (Method method : inside.getDeclaredMethods()) {
                Check.due(method + " bears a public name", publicNames.contains(method.getName()) ? 1 : 0, 0);
            }
        }
    }

    /** To the letter, so that names of parameters and what is thrown are the document's, too. */
    private static void writtenAsInTheDocument(Path document) throws Exception {
        String doc = Files.readString(document, StandardCharsets.UTF_8);
        String source = Files.readString(Path.of("src/main/java/DeadWires.java"), StandardCharsets.UTF_8);
        String written = source.replaceAll("\\s+", " ");
        Matcher face = Pattern.compile("^    (public [^;]+);$", Pattern.MULTILINE).matcher(doc);
        int seen = 0;
        while (face.find()) {
            String due = face.group(1);
            boolean constant = due.contains("=");
            Check.due(due + ": is written so", written.contains(due + (constant ? ";" : " {")) ? 1 : 0, 1);
            seen++;
        }
        // a constant, the constructor, the methods
        Check.due("lines of the document's face", seen, 2 + FACE.length);
    }

    private static void nothingElseIsSeen() {
        Check.due("the class is public and final", DeadWires.class.getModifiers() & (Modifier.PUBLIC | Modifier.FINAL),
                Modifier.PUBLIC | Modifier.FINAL);
        Constructor<?>[] constructors = DeadWires.class.getDeclaredConstructors();
        Check.due("constructors", constructors.length, 1);
        Check.due("its parameters", constructors[0].getParameterCount(), 0);
        int seen = 0;
        for (Field field : DeadWires.class.getDeclaredFields()) {
            seen += Modifier.isPrivate(field.getModifiers()) ? 0 : 1;
        }
        Check.due("fields that are seen", seen, 1);
        Check.due("NONE", DeadWires.NONE, -1);
    }

    private static void newObject() {
        DeadWires w = new DeadWires();
        for (int what = 0; what <= 11; what++) {
            Check.due("new told " + what, w.told(what), what == 7 ? 2 : 0);
        }
        Check.due("new fault", w.fault(), -1);
        Check.due("new would", w.would(9, 1, 0, 0, 0, 0, 0), 3);
        Check.due("new undo", w.undo(), -1);
        Check.due("new restore", w.restore(), -1);
        Check.due("new images", w.count(0), 0);
        Check.due("new tape", w.count(1), 0);
        Check.due("new works", w.count(2), 0);
        Check.due("new status 0", w.status(0), 0);
        Check.due("new status 1", w.status(1), 0);
        Check.due("new parts", w.parts(0), 0);
        Check.missing("new field", () -> w.field(0, 0));
        Check.missing("new wire", () -> w.wire(0, 0));
        Check.missing("new thing", () -> w.thing(0, 0));
        Check.missing("new person", () -> w.person(0, 0));
        Check.due("new autumn", w.autumn(7, 16, 96, 2), 0);
    }
}
