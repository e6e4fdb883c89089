import java.lang.reflect.InvocationTargetException;
import java.lang.reflect.Method;
import java.nio.charset.StandardCharsets;
import java.util.ArrayList;
import java.util.List;
import java.util.Random;

/** Runs of calls by chance, on DeadWires and on the model: every answer must be the same. */
public final class ModelTest {
    private static final int CALLS = 512;
    private static final String[] NAMES = {"told", "field", "wire", "thing", "person", "toll", "would", "can", "ahead",
        "arrives", "waits", "grant", "pliers", "haul", "fits", "look", "parts", "tingle", "lean", "grace", "next",
        "harp", "stuck", "moved", "gates", "ground", "freest", "autumn", "span", "image", "restore", "status",
        "count", "undo", "fault"};

    private final Random random;
    private final DeadWires wires = new DeadWires();
    private final Model model = new Model();
    private final List<String> story = new ArrayList<>();
    private int calls = 0;

    private ModelTest(long seed) {
        random = new Random(seed);
    }

    public static void main(String[] args) throws Exception {
        long runs = args.length > 0 ? Long.parseLong(args[0]) : 300;
        for (long seed = 1; seed <= runs; seed++) {
            ModelTest run = new ModelTest(seed);
            if (!run.goes()) {
                System.out.println("by seed " + seed + ":");
                run.story.forEach(System.out::println);
                Check.due("seed " + seed, 1, 0);
                break;
            }
            Check.due("seed " + seed, 0, 0);
        }
        Check.end();
    }

    private boolean goes() throws Exception {
        boolean same = text("country", land());
        while (same && calls < CALLS - 40) {
            int kind = random.nextInt(100);
            if (kind < 4) {
                same = soup();
            } else if (kind < 6) {
                same = text("country", spoilt(land()));
            } else if (kind < 10) {
                same = text("law", spoilt(sum(0, 3)));
            } else if (kind < 24) {
                same = text("work", spoilt(steps(0)));
            } else if (kind < 27) {
                same = text("book", spoilt(lines()));
            } else {
                same = ask(NAMES[random.nextInt(NAMES.length)]);
            }
        }
        return same;
    }

    // calls on both

    private boolean text(String name, String text) throws Exception {
        byte[] bytes = text.getBytes(StandardCharsets.ISO_8859_1);
        boolean same = true;
        for (int from = 0; from < bytes.length && same; from += 20) {
            int[] five = Check.five(bytes, from);
            same = both("feed", five[0], five[1], five[2], five[3], five[4]);
        }
        int n = chance(40) ? bytes.length + random.nextInt(30) : bytes.length;
        story.add("// " + text);
        return same && both(name, n) && both("fault") && both("told", 10);
    }

    private boolean ask(String name) throws Exception {
        Method method = find(DeadWires.class, name);
        int[] args = new int[method.getParameterCount()];
        for (int i = 0; i < args.length; i++) {
            args[i] = argument(name, i);
        }
        return both(name, args);
    }

    private int argument(String name, int i) {
        if (chance(40)) {
            return new int[] {-1, Integer.MIN_VALUE, Integer.MAX_VALUE, 13, 100, 97, 401}[random.nextInt(7)];
        }
        switch (name) {
            case "would":
                return random.nextInt(new int[] {181, 41, 61, 100, 401, 13, 5}[i]);
            case "ahead":
            case "parts":
                return i == 0 ? random.nextInt(100) : random.nextInt(3);
            case "tingle":
                return random.nextInt(new int[] {13, 17, 2}[i]);
            case "lean":
                return i < 2 ? random.nextInt(chance(2) ? 100 : 2) : random.nextInt(3);
            case "grace":
                return i == 0 ? random.nextInt(8) : i == 1 ? random.nextInt(1 << random.nextInt(13)) : random.nextInt(400);
            case "ground":
                return i == 0 ? random.nextInt(6) : random.nextInt(10);
            case "autumn":
                return i == 0 ? random.nextInt() : i == 1 ? random.nextInt(17) : i == 2 ? 1 + random.nextInt(96) : random.nextInt(4);
            case "span":
                return i == 0 ? random.nextInt() : i == 1 ? 1 + random.nextInt(20) : i == 2 ? random.nextInt(17)
                    : i == 3 ? 1 + random.nextInt(96) : random.nextInt(3);
            case "told":
                return random.nextInt(12);
            default:
                return random.nextInt(6);
        }
    }

    private boolean both(String name, int... args) throws Exception {
        calls++;
        Object got = call(wires, name, args);
        Object want = call(model, name, args);
        StringBuilder row = new StringBuilder(name);
        for (int arg : args) {
            row.append(' ').append(arg);
        }
        story.add(row + " answered " + got + ", due is " + want);
        return got.equals(want);
    }

    private static Object call(Object on, String name, int[] args) throws Exception {
        Object[] boxed = new Object[args.length];
        for (int i = 0; i < args.length; i++) {
            boxed[i] = args[i];
        }
        try {
            return find(on.getClass(), name).invoke(on, boxed);
        } catch (InvocationTargetException e) {
            return e.getCause().getClass().getName();
        }
    }

    private static Method find(Class<?> type, String name) {
        for (Method method : type.getMethods()) {
            if (method.getName().equals(name) && method.getDeclaringClass() == type) {
                return method;
            }
        }
        throw new IllegalStateException(name);
    }

    // texts

    private boolean chance(int of) {
        return random.nextInt(of) == 0;
    }

    private String blank() {
        return chance(12) ? " ".repeat(random.nextInt(3)) : "";
    }

    private String number(int value) {
        return " " + blank() + (chance(60) ? "0" : "") + value;
    }

    private int wireCount = 5;
    private int fieldCount = 5;
    private int thingCount = 3;
    private int personCount = 3;

    private String land() {
        StringBuilder text = new StringBuilder();
        fieldCount = chance(20) ? 1 : 2 + random.nextInt(7);
        wireCount = random.nextInt(13);
        thingCount = random.nextInt(7);
        personCount = chance(10) ? 0 : 1 + random.nextInt(5);
        text.append("fields").append(number(fieldCount)).append(";");
        int most = chance(2) ? 20 : 100;
        List<Integer> ends = new ArrayList<>();
        for (int i = 0; i < 64; i++) {
            if (i % 8 < i / 8 && i / 8 < fieldCount) {
                ends.add(chance(2) ? i : i % 8 * 8 + i / 8);
            }
        }
        wireCount = Math.min(wireCount, ends.size());
        for (int i = 0; i < wireCount; i++) {
            int pair = ends.remove(random.nextInt(ends.size()));
            text.append("wire").append(number(pair / 8)).append(number(pair % 8));
            text.append(number(random.nextInt(most))).append(blank()).append(";");
        }
        for (int i = 0; i < thingCount; i++) {
            text.append("thing").append(number(random.nextInt(fieldCount))).append(number(1 + random.nextInt(30))).append(";");
        }
        for (int i = 0; i < personCount; i++) {
            text.append("person").append(number(random.nextInt(fieldCount))).append(number(1 + random.nextInt(40))).append(";");
        }
        if (chance(2)) {
            text.append(blank()).append("pliers").append(number(random.nextInt(10))).append(";");
        }
        return text.append(blank()).toString();
    }

    private String sum(int open, int left) {
        StringBuilder text = new StringBuilder(product(open, left));
        while (chance(2)) {
            text.append(blank()).append(chance(2) ? "+" : "-").append(product(open, left));
        }
        return text.toString();
    }

    private String product(int open, int left) {
        StringBuilder text = new StringBuilder(unit(open, left));
        while (chance(3)) {
            text.append(blank()).append("*/%".charAt(random.nextInt(3))).append(unit(open, left));
        }
        return text.toString();
    }

    private String unit(int open, int left) {
        int kind = random.nextInt(12);
        if (kind < 3 || left == 0) {
            return number(random.nextInt(chance(2) ? 5 : 1000));
        }
        if (kind < 9) {
            String[] names = {"load", "strong", "tired", "left", "hour", "wires", "person"};
            return blank() + names[random.nextInt(7)];
        }
        if (kind == 9) {
            return blank() + "(" + sum(open + 1, left - 1) + blank() + ")";
        }
        return blank() + (kind == 10 ? "least" : "most") + "[" + sum(open + 1, left - 1) + "," + sum(open + 1, left - 1) + "]";
    }

    private int one(int many) {
        return many == 0 ? 0 : random.nextInt(many);
    }

    private String steps(int open) {
        StringBuilder text = new StringBuilder();
        int many = random.nextInt(open == 0 ? 14 : 5);
        for (int i = 0; i < many && text.length() < 130; i++) {
            text.append(blank()).append(step(open)).append(blank()).append(";");
        }
        return text.toString();
    }

    private String step(int open) {
        switch (random.nextInt(13)) {
            case 0:
            case 1:
                return "lift" + number(one(personCount)) + number(one(thingCount));
            case 2:
                return "set" + number(one(personCount)) + number(one(thingCount));
            case 3:
            case 4:
            case 5:
            case 6:
                return "cross" + number(one(personCount)) + number(one(wireCount));
            case 7:
            case 8:
                return "move" + number(one(wireCount)) + number(1 + random.nextInt(20));
            case 9:
                return "cut" + number(one(wireCount));
            case 10:
            case 11:
                return "hour";
            default:
                return open > 4 ? "hour" : "again" + number(random.nextInt(41)) + "[" + steps(open + 1) + blank() + "]";
        }
    }

    private String lines() {
        StringBuilder text = new StringBuilder();
        int many = random.nextInt(4);
        for (int i = 0; i < many; i++) {
            text.append(number(random.nextInt(41))).append(number(random.nextInt(5))).append(";");
        }
        return text.toString();
    }

    /** A text near its limits, with words, numbers and signs behind it as they come: mostly for where faults lie. */
    private boolean soup() throws Exception {
        String[] kinds = {"country", "law", "work", "book"};
        String kind = kinds[random.nextInt(4)];
        StringBuilder text = new StringBuilder();
        if (kind.equals("country")) {
            text.append("fields 8;").append("pliers 1;".repeat(chance(2) ? 57 + random.nextInt(4) : 0));
            text.append("thing 0 1;".repeat(chance(3) ? 4 + random.nextInt(3) : 0));
        } else if (kind.equals("law")) {
            text.append("(".repeat(random.nextInt(6))).append("least[".repeat(random.nextInt(3)));
        } else if (kind.equals("work")) {
            text.append("again 2[".repeat(random.nextInt(8)));
        } else {
            int lines = random.nextInt(10);
            for (int i = 0; i < lines; i++) {
                text.append(i * 5).append(" 1;");
            }
        }
        String[] parts = {"fields", "wire", "thing", "person", "pliers", "lift", "set", "cross", "move", "cut", "hour", "again",
            "load", "strong", "tired", "left", "wires", "least", "most", "x", "0", "1", "2", "5", "8", "9", "12", "13", "20",
            "21", "30", "31", "40", "41", "99", "100", "999", "1000", ";", ";", ";", "[", "]", "(", ")", ",", "+", "-", "*",
            "/", "%", " ", "&"};
        int many = random.nextInt(12);
        for (int i = 0; i < many; i++) {
            text.append(chance(3) ? "" : " ").append(parts[random.nextInt(parts.length)]);
        }
        int most = kind.equals("country") ? 600 : kind.equals("book") ? 60 : 150;
        return text(kind, text.substring(0, Math.min(most, text.length())));
    }

    /** Now and then a text with something wrong in it. */
    private String spoilt(String text) {
        if (!chance(4)) {
            return text;
        }
        StringBuilder spoilt = new StringBuilder(text);
        String signs = "0123456789;;[]()+-*/%, azlm\u00e9\u0000A\t";
        int times = 1 + random.nextInt(2);
        for (int i = 0; i < times; i++) {
            int place = random.nextInt(spoilt.length() + 1);
            char sign = signs.charAt(random.nextInt(signs.length()));
            int kind = random.nextInt(4);
            if (kind == 0) {
                spoilt.insert(place, sign);
            } else if (kind == 1) {
                spoilt.setLength(place);
            } else if (place < spoilt.length()) {
                if (kind == 2) {
                    spoilt.setCharAt(place, sign);
                } else {
                    spoilt.deleteCharAt(place);
                }
            }
        }
        return spoilt.toString();
    }
}
