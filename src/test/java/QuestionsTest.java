/** Part 3 of the document, and promises 17 to 35: what is asked, nothing staying changed. */
public final class QuestionsTest {
    private static final String LAND = "fields 6;wire 0 1 2;wire 1 2 4;wire 2 3 4;wire 3 4 9;wire 0 4 1;"
            + "thing 0 10;thing 0 10;thing 0 7;thing 1 3;person 0 20;person 0 17;person 1 2;person 5 40;";

    public static void main(String[] args) {
        ahead();
        arrives();
        waits();
        grant();
        pliers();
        haul();
        fits();
        look();
        parts();
        tingle();
        lean();
        grace();
        next();
        harp();
        stuckAndMoved();
        gates();
        ground();
        freest();
        Check.end();
    }

    private static void ahead() {
        DeadWires w = Check.land(LAND);
        Check.law(w, "12 + person");
        Check.work(w, "cross 0 0;cross 1 0;cut 3;");
        Check.due("live now", w.ahead(0, 0), 0);
        Check.due("live in 2", w.ahead(2, 0), 17);
        Check.due("in 99, but the cut one", w.ahead(99, 0), 23);
        Check.due("tired now", w.ahead(0, 1), 25);
        Check.due("tired in 2", w.ahead(2, 1), 5);
        Check.due("tired in 3", w.ahead(3, 1), 0);
        Check.due("in 4 the first of two", w.ahead(4, 2), 1);
        Check.due("in 3 none", w.ahead(3, 2), -1);
        Check.due("a cut one never", w.ahead(9, 2), -1);
        Check.due("nothing stays changed", w.told(4), 0);
        Check.wrong("100", () -> w.ahead(100, 0));
        Check.wrong("-1", () -> w.ahead(-1, 0));
        Check.wrong("what 3", () -> w.ahead(0, 3));
        Check.wrong("what -1", () -> w.ahead(0, -1));
    }

    private static void fieldPairs(String name, java.util.function.IntBinaryOperator asked) {
        Check.missing(name + " 6", () -> asked.applyAsInt(6, 0));
        Check.missing(name + " 0 6", () -> asked.applyAsInt(0, 6));
        Check.missing(name + " -1", () -> asked.applyAsInt(-1, 0));
        Check.missing(name + " 0 -1", () -> asked.applyAsInt(0, -1));
    }

    private static void arrives() {
        DeadWires w = Check.land(LAND);
        Check.due("here", w.arrives(5, 5), 0);
        Check.due("next", w.arrives(0, 4), 1);
        Check.due("by three wires", w.arrives(0, 3), 2);
        Check.due("not to 5", w.arrives(0, 5), -1);
        Check.work(w, "hour;");
        Check.due("the short way is live", w.arrives(0, 3), 3);
        Check.due("4 behind that", w.arrives(0, 4), 4);
        Check.due("live when one comes there", w.arrives(3, 0), -1);
        Check.work(w, "hour;");
        Check.due("all too late", w.arrives(0, 3), -1);
        Check.work(w, "cut 0;");
        Check.due("by the cut one", w.arrives(0, 3), -1);
        Check.due("by the cut one to 2", w.arrives(0, 2), 2);
        fieldPairs("arrives", w::arrives);
    }

    private static void waits() {
        DeadWires w = Check.land(LAND);
        Check.due("here", w.waits(5, 5), 200);
        Check.due("to 1", w.waits(0, 1), 1);
        Check.due("to 4 the long way", w.waits(0, 4), 1);
        Check.due("to 3", w.waits(0, 3), 1);
        Check.due("3 to 4", w.waits(3, 4), 8);
        Check.due("never", w.waits(0, 5), -1);
        Check.work(w, "again 9[hour;];");
        Check.due("too late", w.waits(3, 4), -1);
        Check.due("here all the same", w.waits(3, 3), 200);
        Check.work(w, "cut 3;");
        Check.due("by a cut one as long as asked", w.waits(3, 4), 200);
        DeadWires far = Check.land("fields 2;wire 0 1 99;");
        Check.work(far, "again 5[move 0 20;];");
        Check.due("198", far.waits(0, 1), 198);
        fieldPairs("waits", w::waits);
    }

    private static void grant() {
        DeadWires w = Check.land(LAND);
        Check.due("none needed", w.grant(0, 3), 0);
        Check.due("here", w.grant(5, 5), 0);
        Check.due("never", w.grant(0, 5), -1);
        Check.work(w, "again 10[hour;];");
        Check.due("3 to 4: from 9 to 11", w.grant(3, 4), 2);
        Check.due("0 to 3", w.grant(0, 3), 9);
        Check.due("0 to 2: 0 not live at 10, 1 not at 11", w.grant(0, 2), 9);
        DeadWires late = Check.land("fields 2;wire 0 1 0;");
        Check.work(late, "again 40[hour;hour;hour;hour;];");
        Check.work(late, "again 39[hour;];");
        Check.due("hour", late.told(4), 199);
        Check.due("200 do", late.grant(0, 1), 200);
        Check.work(late, "hour;");
        Check.due("201 would", late.grant(0, 1), -1);
        // the grant is no move: H may come to more than 199 by it
        DeadWires high = Check.land("fields 2;wire 0 1 99;");
        Check.work(high, "again 20[move 0 20;];again 40[hour;hour;hour;hour;];");
        Check.work(high, "again 40[hour;hour;];");
        Check.due("hour", high.told(4), 240);
        Check.due("H is 199", high.wire(0, 2), 199);
        Check.due("42 more", high.grant(0, 1), 42);
        fieldPairs("grant", w::grant);
    }

    private static void pliers() {
        DeadWires w = Check.land(LAND);
        Check.due("here", w.pliers(5, 5), 0);
        Check.due("one", w.pliers(0, 1), 1);
        Check.due("two, bits 0 and 1", w.pliers(0, 2), 3);
        Check.due("two, bits 3 and 4", w.pliers(0, 3), 24);
        Check.due("1 to 3", w.pliers(1, 3), 6);
        Check.due("never", w.pliers(0, 5), -1);
        Check.work(w, "cut 2;");
        Check.due("the cut one not counted", w.pliers(2, 3), 0);
        Check.due("as few: the least bits", w.pliers(0, 3), 3);
        Check.due("1 to 4", w.pliers(1, 4), 10);
        Check.due("no pliers are used", w.told(7), 1);
        DeadWires ring = Check.land("fields 4;wire 2 3 0;wire 0 1 0;wire 1 3 0;wire 0 2 0;");
        Check.due("6 is less than 9", ring.pliers(0, 3), 6);
        fieldPairs("pliers", w::pliers);
    }

    private static void haul() {
        DeadWires w = Check.land(LAND);
        Check.due("weight", w.haul(0, 0), 20);
        Check.due("things", w.haul(0, 1), 3);
        Check.due("17: alike ones", w.haul(1, 0), 17);
        Check.due("the least bits", w.haul(1, 1), 5);
        Check.due("too weak", w.haul(2, 0), 0);
        Check.due("nothing", w.haul(2, 1), 0);
        Check.work(w, "lift 0 2;");
        Check.due("with what he carries", w.haul(0, 0), 10);
        Check.due("of alike ones the first", w.haul(0, 1), 1);
        Check.due("none carried by another", w.haul(1, 1), 1);
        Check.missing("person 4", () -> w.haul(4, 9));
        Check.wrong("what 2", () -> w.haul(0, 2));
        Check.wrong("what -1", () -> w.haul(0, -1));
    }

    private static void fits() {
        DeadWires w = Check.land(LAND);
        Check.due("all", w.fits(0), 100);
        Check.due("first", w.fits(1), 1);
        // as it is, in 2 hours 0 and 4 are live; one fewer: 0 by 1 to 20, or 4 by 2 to 20
        Check.book(w, "2 1;");
        Check.due("fewer", w.fits(0), 39);
        Check.due("first", w.fits(1), 1);
        // and all four in 4 hours: 0 by 1, 2; 4 by 2, 3
        Check.book(w, "4 4;2 1;");
        Check.due("fewer still", w.fits(0), 4);
        Check.book(w, "4 4;2 1;3 1;");
        Check.due("in 3 not yet", w.fits(0), 2);
        Check.due("first", w.fits(1), 2);
        Check.book(w, "4 4;2 1;3 1;5 4;6 4;7 4;8 4;9 5;");
        Check.due("eight lines", w.fits(0), 2);
        Check.book(w, "0 9;");
        Check.due("none", w.fits(0), 0);
        Check.due("none", w.fits(1), -1);
        Check.book(w, "");
        Check.work(w, "cut 0;");
        Check.due("not the cut one", w.fits(0), 80);
        Check.due("first", w.fits(1), 101);
        Check.wrong("what 2", () -> w.fits(2));
        Check.wrong("what -1", () -> w.fits(-1));
        // H may come to more than 199
        DeadWires high = Check.land("fields 2;wire 0 1 99;");
        Check.work(high, "again 20[move 0 20;];again 40[hour;hour;hour;hour;];");
        Check.work(high, "again 7[hour;];");
        Check.book(high, "38 0;");
        Check.due("hour", high.told(4), 167);
        Check.due("not live at 205 by 7 and more", high.fits(1), 7);
        Check.due("up to 20", high.fits(0), 14);
    }

    private static void look() {
        DeadWires w = Check.land("fields 2;wire 0 1 5;");
        Check.due("it is live then by 1 to 10, not by 11 to 20", w.look(1), 10);
        Check.due("in 15", w.look(0), 15);
        Check.book(w, "14 0;");
        Check.due("11 pairs", w.fits(0), 11);
        Check.due("14 is told", w.look(0), 19);
        Check.due("at the worst", w.look(1), 6);
        Check.book(w, "14 3;");
        Check.due("nothing fits: the first", w.look(0), 0);
        Check.due("nothing left", w.look(1), 0);
        Check.book(w, "0 3;");
        Check.due("the first that is not told", w.look(0), 1);
        Check.wrong("what 2", () -> w.look(2));
        Check.wrong("what -1", () -> w.look(-1));
    }

    private static void parts() {
        DeadWires w = Check.land(LAND);
        int[] due = {2, 2, 3, 3, 5, 5, 5, 5, 5, 6};
        for (int n = 0; n < due.length; n++) {
            Check.due("parts " + n, w.parts(n), due[n]);
        }
        Check.due("all single", w.parts(99), 6);
        Check.work(w, "hour;cut 0;");
        Check.due("a cut one holds", w.parts(99), 5);
        Check.due("from now on", w.parts(3), 4);
        Check.wrong("100", () -> w.parts(100));
        Check.wrong("-1", () -> w.parts(-1));
    }

    private static void tingle(int n, int q, long above, long below) {
        DeadWires w = new DeadWires();
        Check.due("above " + n + " " + q, w.tingle(n, q, 0), above);
        Check.due("below " + n + " " + q, w.tingle(n, q, 1), below);
    }

    private static void tingle() {
        tingle(0, 0, 0, 1);
        tingle(0, 16, 0, 1);
        tingle(1, 16, 1, 1);
        tingle(1, 0, 0, 1);
        tingle(2, 16, 0, 1);
        tingle(2, 4, 3, 8);
        tingle(5, 0, 0, 1);
        // 12 * 15^11 / 16^12, by 4
        tingle(12, 1, 3 * 8649755859375L, 1L << 46);
        tingle(12, 15, 12 * 15 / 4, 1L << 46);
        tingle(12, 16, 0, 1);
        DeadWires w = new DeadWires();
        Check.wrong("13", () -> w.tingle(13, 1, 0));
        Check.wrong("-1", () -> w.tingle(-1, 1, 0));
        Check.wrong("17", () -> w.tingle(1, 17, 0));
        Check.wrong("q -1", () -> w.tingle(1, -1, 0));
        Check.wrong("part 2", () -> w.tingle(1, 1, 2));
        Check.wrong("part -1", () -> w.tingle(1, 1, -1));
    }

    private static void lean(int v, int w, int rests) {
        DeadWires x = new DeadWires();
        Check.due("rests " + v + " " + w, x.lean(v, w, 0), rests);
        Check.due("first " + v + " " + w, x.lean(v, w, 1), 0);
        Check.due("together " + v + " " + w, x.lean(v, w, 2), 2 * v);
    }

    private static void lean() {
        lean(0, 0, 4);
        lean(0, 1, 2);
        lean(1, 0, 2);
        lean(99, 99, 2);
        lean(5, 3, 2);
        DeadWires x = new DeadWires();
        Check.wrong("v 100", () -> x.lean(100, 0, 0));
        Check.wrong("v -1", () -> x.lean(-1, 0, 0));
        Check.wrong("w 100", () -> x.lean(0, 100, 0));
        Check.wrong("w -1", () -> x.lean(0, -1, 0));
        Check.wrong("what 3", () -> x.lean(0, 0, 3));
        Check.wrong("what -1", () -> x.lean(0, 0, -1));
    }

    private static void grace() {
        DeadWires w = Check.land(LAND);
        Check.due("all, as they are no more", w.grace(3, 31, 20), 9);
        Check.due("8 of 9", w.grace(3, 31, 19), 8);
        Check.due("bound 3: 2 3 3 3 1", w.grace(1, 31, 14), 3);
        Check.due("12 are just enough for that", w.grace(3, 31, 12), 3);
        Check.due("11 are not: 2 2 2 2 1", w.grace(3, 31, 11), 2);
        Check.due("nothing", w.grace(3, 31, 0), 0);
        Check.due("none of them", w.grace(3, 7, 999), 0);
        Check.due("of none", w.grace(0, 0, 999), 0);
        Check.due("alone", w.grace(3, 8, 7), 7);
        Check.work(w, "cut 3;hour;");
        Check.due("a cut one: 99", w.grace(3, 8, 999), 99);
        Check.due("a live one: 0", w.grace(4, 16, 999), 0);
        Check.due("an hour less", w.grace(0, 1, 999), 1);
        Check.missing("wire 5, ahead of others", () -> w.grace(5, -1, -1));
        Check.missing("wire -1", () -> w.grace(-1, 1, 1));
        Check.wrong("bits of none", () -> w.grace(0, 32, 1));
        Check.wrong("bits of none", () -> w.grace(0, 33, 1));
        Check.wrong("bits of none", () -> w.grace(0, -1, 1));
        Check.wrong("bits of none", () -> w.grace(0, Integer.MIN_VALUE, 1));
        Check.wrong("n 1000", () -> w.grace(0, 1, 1000));
        Check.wrong("n -1", () -> w.grace(0, 1, -1));
    }

    private static void next() {
        DeadWires w = Check.land(LAND);
        Check.due("next", w.next(0), 4);
        Check.due("in", w.next(1), 1);
        Check.work(w, "hour;");
        Check.due("live ones not", w.next(0), 0);
        Check.work(w, "cut 0;");
        Check.due("cut ones not, of alike ones the first", w.next(0), 1);
        Check.due("in", w.next(1), 3);
        Check.work(w, "again 9[move 1 20;];again 9[move 2 20;];again 9[move 3 20;];");
        Check.due("more than 99", w.next(1), 183);
        Check.due("which", w.next(0), 1);
        Check.work(w, "again 40[hour;hour;hour;hour;];");
        Check.work(w, "again 40[hour;hour;];");
        Check.due("none", w.next(0), -1);
        Check.due("in none", w.next(1), -1);
        Check.wrong("what 2", () -> w.next(2));
        Check.wrong("what -1", () -> w.next(-1));
    }

    private static void harp() {
        DeadWires w = Check.land(LAND);
        Check.due("of alike ones the first", w.harp(0), 0);
        Check.due("how many", w.harp(1), 2);
        DeadWires x = Check.land("fields 4;wire 0 3 1;wire 1 2 1;wire 2 3 1;");
        Check.due("harp", x.harp(0), 2);
        DeadWires y = Check.land("fields 2;");
        Check.due("without wires", y.harp(0), 0);
        Check.due("none", y.harp(1), 0);
        Check.due("without fields", new DeadWires().harp(1), -1);
        Check.wrong("what 2", () -> w.harp(2));
        Check.wrong("what -1", () -> w.harp(-1));
    }

    private static void stuckAndMoved() {
        DeadWires w = Check.land(LAND);
        Check.due("in 5", w.stuck(), 8);
        Check.due("not moved", w.moved(), 0);
        Check.law(w, "40");
        Check.work(w, "cross 0 0;move 1 1;move 3 20;");
        Check.due("and who is tired", w.stuck(), 9);
        Check.due("moved", w.moved(), 10);
        Check.work(w, "again 4[hour;];");
        Check.due("rested; at 0 all are live", w.stuck(), 8 + 2);
        Check.due("nobody", Check.land("fields 2;wire 0 1 1;").stuck(), 0);
        w.undo();
        w.undo();
        Check.due("moved, undone", w.moved(), 0);
    }

    private static void gates() {
        DeadWires w = Check.land(LAND);
        Check.work(w, "cut 1;again 2[hour;];");
        Check.due("live at 0", w.gates(0, 0), 17);
        Check.due("cut at 1", w.gates(1, 1), 2);
        Check.due("live at 1", w.gates(1, 0), 1);
        Check.due("neither at 1", w.gates(1, 2), 0);
        Check.due("neither at 3", w.gates(3, 2), 12);
        Check.due("none at 5", w.gates(5, 2), 0);
        Check.missing("field 6", () -> w.gates(6, 3));
        Check.wrong("what 3", () -> w.gates(0, 3));
        Check.wrong("what -1", () -> w.gates(0, -1));
    }

    private static void ground() {
        DeadWires w = Check.land(LAND);
        Check.due("here", w.ground(0, 0), 1);
        Check.due("an hour", w.ground(0, 1), 19);
        Check.due("two", w.ground(0, 2), 31);
        Check.due("99", w.ground(0, 99), 31);
        Check.work(w, "hour;");
        Check.due("one way is live", w.ground(0, 1), 3);
        Check.due("two", w.ground(0, 2), 7);
        Check.due("three", w.ground(0, 3), 15);
        Check.due("alone", w.ground(5, 99), 32);
        Check.missing("field 6", () -> w.ground(6, 100));
        Check.missing("field -1", () -> w.ground(-1, 1));
        Check.wrong("100", () -> w.ground(0, 100));
        Check.wrong("-1", () -> w.ground(0, -1));
    }

    private static void freest() {
        DeadWires w = Check.land(LAND);
        Check.due("freest", w.freest(0), 3);
        Check.due("by", w.freest(1), 40);
        DeadWires x = Check.land("fields 1;thing 0 3;thing 0 17;person 0 20;person 0 17;");
        Check.work(x, "lift 0 0;");
        Check.due("of alike ones the first", x.freest(0), 0);
        Check.due("17", x.freest(1), 17);
        Check.work(x, "lift 0 1;");
        Check.due("now the other", x.freest(0), 1);
        Check.due("nobody", Check.land("fields 1;").freest(0), -1);
        Check.due("nobody", Check.land("fields 1;").freest(1), -1);
        DeadWires full = Check.land("fields 1;thing 0 5;person 0 5;");
        Check.work(full, "lift 0 0;");
        Check.due("one who is full", full.freest(0), 0);
        Check.due("by 0", full.freest(1), 0);
        Check.wrong("what 2", () -> w.freest(2));
        Check.wrong("what -1", () -> w.freest(-1));
    }
}
