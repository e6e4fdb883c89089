import java.nio.charset.StandardCharsets;
import java.util.NoSuchElementException;

/** What the tests share: feeding texts, and counting answers that are not as due. */
final class Check {
    /** Stand for the exceptions in answers; no call of the document answers these numbers. */
    static final long MISSING = Long.MIN_VALUE;
    static final long WRONG = Long.MIN_VALUE + 1;

    interface Call {
        long go();
    }

    private static int checks = 0;
    private static int faults = 0;

    private Check() {
    }

    static void due(String what, long got, long want) {
        checks++;
        if (got != want) {
            faults++;
            System.out.println(what + " answered " + told(got) + ", due is " + told(want));
        }
    }

    static void due(String what, Call call, long want) {
        due(what, answer(call), want);
    }

    static void missing(String what, Call call) {
        due(what, answer(call), MISSING);
    }

    static void wrong(String what, Call call) {
        due(what, answer(call), WRONG);
    }

    static long answer(Call call) {
        try {
            return call.go();
        } catch (NoSuchElementException e) {
            return MISSING;
        } catch (IllegalArgumentException e) {
            return WRONG;
        }
    }

    static String told(long answer) {
        if (answer == MISSING) {
            return "NoSuchElementException";
        }
        return answer == WRONG ? "IllegalArgumentException" : String.valueOf(answer);
    }

    /** Feeds a text, filled up with zeros to whole twenties; its length. */
    static int feed(DeadWires wires, String text) {
        byte[] bytes = text.getBytes(StandardCharsets.ISO_8859_1);
        for (int from = 0; from < bytes.length; from += 20) {
            int[] five = five(bytes, from);
            wires.feed(five[0], five[1], five[2], five[3], five[4]);
        }
        return bytes.length;
    }

    static int[] five(byte[] bytes, int from) {
        int[] five = new int[5];
        for (int i = 0; i < 20; i++) {
            int one = from + i < bytes.length ? bytes[from + i] & 255 : 0;
            five[i / 4] = five[i / 4] << 8 | one;
        }
        return five;
    }

    static int country(DeadWires wires, String text) {
        return wires.country(feed(wires, text));
    }

    static int law(DeadWires wires, String text) {
        return wires.law(feed(wires, text));
    }

    static int work(DeadWires wires, String text) {
        return wires.work(feed(wires, text));
    }

    static int book(DeadWires wires, String text) {
        return wires.book(feed(wires, text));
    }

    static DeadWires land(String text) {
        DeadWires wires = new DeadWires();
        int got = country(wires, text);
        if (got < 0) {
            due("country " + text, got, 0);
        }
        return wires;
    }

    static void end() {
        System.out.println(checks + " checks, " + faults + " faults");
        if (faults != 0) {
            System.exit(1);
        }
    }
}
