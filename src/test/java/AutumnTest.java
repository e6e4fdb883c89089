/** Promises 36 and 37: autumns by seeds; the draws are worked out here once more. */
public final class AutumnTest {
    private static final String LAND = "fields 3;wire 0 1 30;wire 1 2 30;wire 0 2 6;thing 0 2;thing 1 3;"
            + "person 0 9;person 1 4;person 2 9;";

    private static int seed;

    public static void main(String[] args) {
        draws();
        byTheDraws();
        withoutSome();
        beyondTheLastHour();
        nothingStays();
        spans();
        refusals();
        Check.end();
    }

    private static int draw(int by) {
        seed = seed * 1103515245 + 12345;
        return (seed >>> 16 & 0x7fff) % by;
    }

    /** One hour of an autumn is a work of at most four steps: it is told as such and done. */
    private static String hourAsWork(int q) {
        int person = draw(3);
        int wire = draw(3);
        int thing = draw(2);
        boolean moves = draw(16) < q;
        return "cross " + person + " " + wire + ";lift " + person + " " + thing + ";"
                + (moves ? "move " + wire + " 3;" : "") + "hour;";
    }

    private static void draws() {
        // worked out by hand: 12345 is below 65536, so its bits 16 to 30 are 0
        seed = 0;
        Check.due("first draw of seed 0", draw(32768), 0);
        // 12345 * 1103515245 + 12345 is by 32 bits 3,554,416,254: above 65,536 that is 54,236, without bit 31 21,468
        Check.due("second draw of seed 0", draw(32768), 21468);
        seed = 1;
        Check.due("first draw of seed 1", draw(32768), 16838);
    }

    private static void byTheDraws() {
        for (int first : new int[] {0, 1, -1, 77777, Integer.MIN_VALUE, Integer.MAX_VALUE}) {
            for (int q : new int[] {0, 5, 16}) {
                DeadWires w = Check.land(LAND);
                Check.law(w, "load + left / 8");
                DeadWires done = Check.land(LAND);
                Check.law(done, "load + left / 8");
                seed = first;
                for (int hours = 1; hours <= 14; hours++) {
                    Check.work(done, hourAsWork(q));
                    String which = "seed " + first + " q " + q + " hours " + hours;
                    Check.due("crossings by " + which, w.autumn(first, q, hours, 0), done.told(11));
                    Check.due("carried by " + which, w.autumn(first, q, hours, 1), done.told(8));
                    Check.due("live by " + which, w.autumn(first, q, hours, 2), done.told(5));
                    Check.due("tired by " + which, w.autumn(first, q, hours, 3), done.ahead(0, 1));
                }
            }
        }
    }

    private static void withoutSome() {
        DeadWires nobody = Check.land("fields 2;wire 0 1 9;thing 0 1;");
        Check.due("hours go by", nobody.autumn(1, 16, 9, 2), 1);
        Check.due("not yet", nobody.autumn(1, 16, 8, 2), 0);
        DeadWires noWires = Check.land("fields 1;thing 0 1;person 0 9;");
        Check.due("nothing is lifted", noWires.autumn(1, 16, 96, 1), 0);
        DeadWires noThings = Check.land("fields 2;wire 0 1 99;person 0 9;");
        Check.law(noThings, "0");
        // without things an hour draws three times, so a single wire is moved by each third draw below q
        seed = 5;
        int moves = 0;
        for (int i = 0; i < 10; i++) {
            draw(1);
            draw(1);
            moves += draw(16) < 7 ? 1 : 0;
        }
        Check.due("all ten crossed", noThings.autumn(5, 7, 10, 0), 10);
        Check.due("some moves", moves > 0 && moves < 10 ? 1 : 0, 1);
        DeadWires near = Check.land("fields 2;wire 0 1 10;person 0 9;");
        Check.due("not moved it would be live", near.autumn(5, 0, 10, 2), 1);
        Check.due("moved it is not", near.autumn(5, 16, 10, 2), 0);
    }

    private static void beyondTheLastHour() {
        DeadWires w = Check.land("fields 2;wire 0 1 0;person 0 9;pliers 1;");
        for (int i = 0; i < 11; i++) {
            Check.work(w, "again 40[hour;];");
        }
        Check.work(w, "cut 0;");
        Check.due("hour", w.told(4), 400);
        Check.law(w, "hour - 400");
        // crossings at 400, 401, ..: tolls 0, 1, 2, ..; each hour takes 5 of it
        Check.due("beyond 400", w.autumn(3, 0, 10, 3), tiredAfter(10));
        Check.due("crossings", w.autumn(3, 0, 10, 0), 10);
    }

    private static int tiredAfter(int hours) {
        int tired = 0;
        for (int i = 0; i < hours; i++) {
            tired = Math.max(0, tired + i - 5);
        }
        return tired;
    }

    private static void nothingStays() {
        DeadWires w = Check.land(LAND);
        Check.work(w, "lift 0 0;cross 0 0;hour;");
        int before = w.autumn(9, 8, 50, 3);
        w.span(9, 20, 8, 96, 0, 0);
        Check.due("the same again", w.autumn(9, 8, 50, 3), before);
        Check.due("hour", w.told(4), 1);
        Check.due("crossings", w.told(11), 1);
        Check.due("where", w.person(0, 1), 1);
        Check.due("moved", w.moved(), 0);
        Check.due("carried", w.told(8), 1);
        Check.due("nothing to undo more", w.count(2), 1);
    }

    private static void spans() {
        DeadWires w = Check.land(LAND);
        Check.work(w, "cross 0 0;");
        for (int first : new int[] {0, 12345, Integer.MAX_VALUE - 3}) {
            int fewest = Integer.MAX_VALUE;
            int most = 0;
            for (int i = 0; i < 20; i++) {
                int crossings = w.autumn(first + i, 4, 20, 0);
                fewest = Math.min(fewest, crossings);
                most = Math.max(most, crossings);
                Check.due("fewest of " + i, w.span(first, i + 1, 4, 20, 0, 0), fewest);
                Check.due("most of " + i, w.span(first, i + 1, 4, 20, 1, 2), most);
            }
        }
        DeadWires alone = Check.land("fields 2;wire 0 1 99;person 0 9;");
        Check.law(alone, "0");
        Check.due("three crossings: elsewhere", alone.span(1, 20, 0, 3, 2, 0), 20);
        Check.due("four: back", alone.span(1, 20, 0, 4, 2, 0), 0);
    }

    private static void refusals() {
        DeadWires w = Check.land(LAND);
        Check.wrong("q 17", () -> w.autumn(1, 17, 1, 0));
        Check.wrong("q -1", () -> w.autumn(1, -1, 1, 0));
        Check.wrong("hours 0", () -> w.autumn(1, 1, 0, 0));
        Check.wrong("hours 97", () -> w.autumn(1, 1, 97, 0));
        Check.wrong("what 4", () -> w.autumn(1, 1, 1, 4));
        Check.wrong("what -1", () -> w.autumn(1, 1, 1, -1));
        Check.wrong("many 0", () -> w.span(1, 0, 1, 1, 0, 0));
        Check.wrong("many 21", () -> w.span(1, 21, 1, 1, 0, 0));
        Check.wrong("q 17", () -> w.span(1, 1, 17, 1, 0, 0));
        Check.wrong("q -1", () -> w.span(1, 1, -1, 1, 0, 0));
        Check.wrong("hours 0", () -> w.span(1, 1, 1, 0, 0, 0));
        Check.wrong("hours 97", () -> w.span(1, 1, 1, 97, 0, 0));
        Check.wrong("what 3", () -> w.span(1, 1, 1, 1, 3, 0));
        Check.wrong("what -1", () -> w.span(1, 1, 1, 1, -1, 0));
        Check.wrong("person 3", () -> w.span(1, 1, 1, 1, 0, 3));
        Check.wrong("person -1", () -> w.span(1, 1, 1, 1, 1, -1));
        Check.due("all counted", w.status(1), 16);
        Check.due("none missed", w.status(0), 0);
        Check.due("at the edges", Math.min(0, w.span(1, 20, 16, 96, 1, 2)), 0);
        Check.due("at the edges", Math.min(0, w.autumn(1, 0, 96, 3)), 0);
    }
}
