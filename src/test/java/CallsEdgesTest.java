/**
 * Promises 1 to 41 at the bounds of their arguments: the last that is allowed, the first that is not, what is refused
 * by which exception, that it is counted, and that all else stays as it was.
 */
public final class CallsEdgesTest {
    private static final int LEAST = Integer.MIN_VALUE;
    private static final int GREATEST = Integer.MAX_VALUE;

    public static void main(String[] args) {
        newObject();
        feed();
        textLengths();
        countryEmptiesTheTape();
        countryBegins();
        countryFaultLeavesAll();
        law();
        work();
        workFaultDoesNone();
        workFull();
        book();
        fault();
        undo();
        told();
        field();
        wire();
        thing();
        person();
        toll();
        would();
        can();
        ahead();
        pairsOfFields();
        haul();
        fitsAndLook();
        parts();
        tingle();
        lean();
        grace();
        next();
        harp();
        stuck();
        moved();
        gates();
        ground();
        freest();
        autumn();
        span();
        image();
        restore();
        status();
        count();
        fullCountry();
        smallerBehindTheFull();
        fiveHundredAndTwelveCalls();
        Check.end();
    }

    private interface OfOne {
        long ask(DeadWires w, int one);
    }

    private interface OfTwo {
        long ask(DeadWires w, int one, int two);
    }

    private static boolean stays(long answer) {
        return answer != Check.MISSING && answer != Check.WRONG;
    }

    /** Allowed from least to most; beyond them refused as told, all staying as it was. */
    private static void bounds(String name, int least, int most, long refusal, OfOne call) {
        DeadWires w = Seen.midway();
        for (int allowed = least; allowed <= most; allowed += Math.max(1, (most - least) / 8)) {
            int one = allowed;
            Check.due(name + " of " + one + " is allowed", stays(Check.answer(() -> call.ask(w, one))) ? 1 : 0, 1);
        }
        Check.due(name + " of " + most + " is allowed", stays(Check.answer(() -> call.ask(w, most))) ? 1 : 0, 1);
        Check.due("none was counted", w.status(0) + w.status(1), 0);
        for (int beyond : new int[] {least - 1, most + 1, LEAST, GREATEST}) {
            Seen.leaves(name + " of " + beyond, refusal, x -> call.ask(x, beyond));
        }
    }

    private static void whats(String name, int last, OfOne call) {
        bounds(name, 0, last, Check.WRONG, call);
    }

    private static void ones(String name, int many, OfOne call) {
        bounds(name, 0, many - 1, Check.MISSING, call);
    }

    // 1: "A COUNTRY without CLAUSES."

    private static void newObject() {
        DeadWires w = new DeadWires();
        DeadWires told = new DeadWires();
        Check.due("a country without clauses", told.country(0), 0);
        for (int what = 0; what <= 11; what++) {
            Check.due("told " + what, w.told(what), told.told(what));
        }
        Check.due("no fault", w.fault(), -1);
        Check.due("nothing on the tape", w.count(1), 0);
        Check.due("next", w.next(1), -1);
        Check.due("harp", w.harp(1), -1);
        Check.due("freest", w.freest(1), -1);
        Check.due("stuck", w.stuck(), 0);
        Check.due("moved", w.moved(), 0);
        Check.due("fits", w.fits(1), -1);
        Check.due("look", w.look(0), 0);
        Check.due("ahead", w.ahead(0, 2), -1);
        Check.missing("arrives", () -> w.arrives(0, 0));
        Check.missing("toll", () -> w.toll(0, 0));
        Check.missing("can", () -> w.can(0, 0) ? 1 : 0);
        Check.missing("haul", () -> w.haul(0, 0));
        Check.missing("gates", () -> w.gates(0, 0));
        Check.missing("ground", () -> w.ground(0, 0));
        Check.missing("grace", () -> w.grace(0, 0, 0));
        Check.wrong("span", () -> w.span(0, 1, 0, 1, 0, 0));
        Check.due("missing ones", w.status(0), 7);
        Check.due("wrong ones", w.status(1), 1);
    }

    // 2: "Twenty bytes come on the TAPE, of each number the highest first: how many there are; NONE, doing nothing, if
    // there would be more than 600."

    private static void feed() {
        DeadWires w = new DeadWires();
        for (int i = 1; i <= 29; i++) {
            Check.due("feed " + i, w.feed(0x20202020, 0x20202020, 0x20202020, 0x20202020, 0x20202020), 20 * i);
        }
        Check.due("the 30th: 'fields 2;wire 1 0 7;'",
                w.feed(0x6669656c, 0x64732032, 0x3b776972, 0x65203120, 0x3020373b), 600);
        Check.due("the 31st", w.feed(LEAST, -1, 0, 1, GREATEST), -1);
        Check.due("does nothing", w.count(1), 600);
        Check.due("again", w.feed(0, 0, 0, 0, 0), -1);
        Check.due("no refusal", w.status(0) + w.status(1), 0);
        Check.due("600 bytes, the last ones as fed", w.country(600), 1);
        Check.due("A", w.wire(0, 0), 1);
        Check.due("H", w.wire(0, 2), 7);
        Check.due("room again", w.feed(-1, -1, -1, -1, -1), 20);
        Check.due("bytes of 255 are none that stand there", w.country(1), -9);
        // of each number the highest first: 'h' 'o' 'u' 'r', ';' and blanks
        w.feed(0x686f7572, 0x3b202020, 0x686f7572, 0x20202020, 0x3b000000);
        Check.due("two hours", w.work(17), 2);
        w.feed(0x72756f68, 0x3b, 0, 0, 0);
        Check.due("not the lowest", w.work(8), -9);
    }

    // 3 to 6: "IllegalArgumentException: n is not 0 to the TAPE's bytes (it stays)." "(n to 150)" "(n to 60)"

    private static void textLengths() {
        for (int n : new int[] {-1, 21, LEAST, GREATEST, 600, 601}) {
            Seen.leavesWrong("country " + n, w -> w.country(n));
            Seen.leavesWrong("law " + n, w -> w.law(n));
            Seen.leavesWrong("work " + n, w -> w.work(n));
            Seen.leavesWrong("book " + n, w -> w.book(n));
        }
        for (int n : new int[] {151, 160, 600}) {
            DeadWires w = full();
            Check.wrong("law " + n, () -> w.law(n));
            Check.wrong("work " + n, () -> w.work(n));
            Check.due("both counted", w.status(1), 2);
            Check.due("the tape stays", w.count(1), 600);
            Check.due("country may", w.country(n), 0);
        }
        for (int n : new int[] {61, 150}) {
            DeadWires w = full();
            Check.wrong("book " + n, () -> w.book(n));
            Check.due("counted", w.status(1), 1);
            Check.due("the tape stays", w.count(1), 600);
            Check.due("work may", w.work(n), 0);
        }
        Check.due("book of 60", full().book(60), 0);
        Check.due("work of 150", full().work(150), 0);
        Check.due("law of 150 blanks ends too early", full().law(150), -9);
        Check.due("country of 600", full().country(600), 0);
        DeadWires some = new DeadWires();
        some.feed(0x20202020, 0x20202020, 0x20202020, 0x20202020, 0x20202020);
        Check.wrong("21 of 20", () -> some.country(21));
        Check.due("20 of 20", some.country(20), 0);
        Check.wrong("1 of 0", () -> some.country(1));
        Check.due("0 of 0", some.country(0), 0);
    }

    private static DeadWires full() {
        DeadWires w = new DeadWires();
        Check.feed(w, " ".repeat(600));
        return w;
    }

    // 3: "The first n bytes of the TAPE (empty then) are the COUNTRY"

    private static void countryEmptiesTheTape() {
        DeadWires w = new DeadWires();
        Check.feed(w, "fields 3;fields 9;");
        Check.due("the first nine", w.country(9), 0);
        Check.due("three", w.told(0), 3);
        Check.due("all bytes are gone", w.count(1), 0);
        Check.feed(w, "x");
        Check.due("faulty", w.country(1), -9);
        Check.due("gone as well", w.count(1), 0);
        Check.feed(w, "x");
        Check.due("none of them", w.country(0), 0);
        Check.due("gone as well", w.count(1), 0);
    }

    // 3: "(no LAW, BOOK, IMAGES, nothing to undo): how many WIRES"

    private static void countryBegins() {
        DeadWires w = Seen.midway();
        Check.due("bytes are there", w.count(1), 20);
        Check.due("without clauses", w.country(0), 0);
        Check.due("no fields", w.told(0), 0);
        Check.due("no law", w.would(4, 1, 0, 0, 100, 0, 0), 2);
        Check.due("no book", w.told(9), 0);
        Check.due("no images", w.count(0), 0);
        Check.due("nothing to undo", w.count(2), 0);
        Check.due("no fault", w.fault(), -1);
        Check.due("none refused", w.told(10), 0);
        Check.due("restore", w.restore(), -1);
        Check.due("undo", w.undo(), -1);
        DeadWires longest = new DeadWires();
        Check.due("a law as long as may be", Check.law(longest, "9+" + "0+".repeat(73) + "2"), 1);
        Check.due("by it", longest.would(8, 1, 0, 0, 0, 0, 0), 11);
        longest.country(0);
        Check.due("no law again", longest.would(8, 1, 0, 0, 0, 0, 0), 3);
        DeadWires full = Check.land("fields 2;wire 0 1 1;");
        for (int i = 0; i < 16; i++) {
            full.work(0);
        }
        Check.due("another one", Check.country(full, "fields 2;wire 0 1 1;"), 1);
        Check.due("there is room for works", Check.work(full, "hour;"), 1);
    }

    // 3: "or the FAULT less 10 (all stays)"

    private static void countryFaultLeavesAll() {
        faultLeaves("fields 2;wire 0 1 1;thing 0 1;person 0 1;pliers 9;x", -9, (w, n) -> w.country(n));
        faultLeaves("fields 2;wire 0 1 1;wire 0 1 1;", -8, (w, n) -> w.country(n));
        faultLeaves("pliers 1;".repeat(61), -7, (w, n) -> w.country(n));
    }

    /** Behind a text with a fault all is as without it, but for the tape and the fault's place. */
    private static void faultLeaves(String text, int due, OfOne read) {
        DeadWires one = Seen.midway();
        DeadWires other = Seen.midway();
        // the tape is emptied first
        one.book(0);
        other.book(0);
        Check.book(one, "3 1;6 2;");
        Check.book(other, "3 1;6 2;");
        int n = Check.feed(one, text);
        Check.due("'" + text + "'", read.ask(one, n), due);
        Check.due("its place is told", one.fault() >= 0 ? 1 : 0, 1);
        Check.due("the tape is empty", one.count(1), 0);
        // the same text on both ends what they may differ in
        Check.book(one, "3 1;6 2;");
        Check.book(other, "3 1;6 2;");
        Check.feed(one, "cross 0 1;set 0 0;  ");
        Check.feed(other, "cross 0 1;set 0 0;  ");
        Seen.alike("'" + text + "'", one, other, 0, 0);
    }

    // 4: "Likewise the LAW (n to 150): 1."

    private static void law() {
        faultLeaves("load + 1000", -8, (w, n) -> w.law(n));
        faultLeaves("(((((((1", -7, (w, n) -> w.law(n));
        faultLeaves("9 + ", -9, (w, n) -> w.law(n));
        DeadWires x = Check.land("fields 2;wire 0 1 9;person 0 9;");
        Check.due("a law", Check.law(x, "7"), 1);
        Check.due("by it", x.toll(0, 0), 7);
        Check.due("another", Check.law(x, "8"), 1);
        Check.due("by that", x.toll(0, 0), 8);
        Check.due("none of no bytes", x.law(0), -9);
        Check.due("the last stays", x.toll(0, 0), 8);
    }

    // 5: "how many STEPS were done (agains not counted, nor REFUSED ones)"

    private static void work() {
        DeadWires w = Check.land("fields 2;wire 0 1 9;person 0 9;");
        Check.due("agains are not counted", Check.work(w, "again 2[again 2[hour;];];"), 4);
        Check.due("nor refused ones", Check.work(w, "cross 0 0;cut 0;cut 0;"), 2);
        Check.due("one refused", w.told(10), 1);
        Check.due("none at all", w.work(0), 0);
        Check.due("it counts as a work", w.count(2), 3);
        Check.due("and refused none", w.told(10), 0);
        Check.due("one of refused steps alone", Check.work(w, "cut 0;"), 0);
        Check.due("is a work, too", w.count(2), 4);
        Check.due("only the first bytes", feedAndWork(w, "hour;hour;", 5), 1);
        Check.due("the others are gone", w.count(1), 0);
    }

    private static int feedAndWork(DeadWires w, String text, int n) {
        Check.feed(w, text);
        return w.work(n);
    }

    // 5: "or the FAULT less 10 (none is)"

    private static void workFaultDoesNone() {
        faultLeaves("hour;hour;hour", -9, (w, n) -> w.work(n));
        faultLeaves("hour;cut 3;", -8, (w, n) -> w.work(n));
        faultLeaves("hour;" + "again 1[".repeat(7), -7, (w, n) -> w.work(n));
    }

    // 5: "-20 ahead of that (nothing is read, there is no FAULT, the TAPE is empty then): 16 WORKS are there that were
    // not undone"

    private static void workFull() {
        DeadWires w = Check.land("fields 2;wire 0 1 9;person 0 9;");
        Check.law(w, "x");
        for (int i = 1; i <= 16; i++) {
            Check.due("work " + i, Check.work(w, "hour;"), 1);
            Check.due("works", w.count(2), i);
        }
        Check.law(w, "x");
        Check.due("a fault", w.fault(), 0);
        Check.due("the 17th", Check.work(w, "hour;"), -20);
        Check.due("no fault", w.fault(), -1);
        Check.due("the tape is empty", w.count(1), 0);
        Check.due("nothing is done", w.told(4), 16);
        Check.due("no work more", w.count(2), 16);
        Check.due("a faulty one is not read", Check.work(w, "cut 9;"), -20);
        Check.due("no fault", w.fault(), -1);
        Check.due("one of no bytes", w.work(0), -20);
        Check.due("no refusals", w.status(1), 0);
        Check.wrong("a wrong length is refused all the same", () -> w.work(1));
        Check.due("undone", w.undo(), 15);
        Check.due("room for one", Check.work(w, "hour;hour;"), 2);
        Check.due("hour", w.told(4), 17);
        Check.due("full again", w.work(0), -20);
        Check.due("laws and books are read", Check.law(w, "1") + Check.book(w, "1 1;"), 2);
    }

    // 6: "Likewise the BOOK (n to 60): how many lines."

    private static void book() {
        faultLeaves("1 1;2 2;3", -9, (w, n) -> w.book(n));
        faultLeaves("1 1;2 2;1 3;", -8, (w, n) -> w.book(n));
        faultLeaves("0 0;1 0;2 0;3 0;4 0;5 0;6 0;7 0;8 0;", -7, (w, n) -> w.book(n));
        DeadWires w = Check.land("fields 2;wire 0 1 9;");
        Check.due("two lines", Check.book(w, "1 1;2 2;"), 2);
        Check.due("none", w.book(0), 0);
        Check.due("told", w.told(9), 0);
        // in place of the last one, not to it
        Check.due("one line", Check.book(w, "9 0;"), 1);
        Check.due("fits by it alone", w.fits(0), 20);
    }

    // 7: "The place of the FAULT of the latest text; NONE without."

    private static void fault() {
        DeadWires w = new DeadWires();
        Check.due("ahead of any", w.fault(), -1);
        Check.law(w, "1 x");
        Check.due("of a law", w.fault(), 2);
        Check.due("again", w.fault(), 2);
        Check.book(w, "99");
        Check.due("the latest", w.fault(), 0);
        Check.work(w, "");
        Check.due("none in the latest", w.fault(), -1);
        Check.country(w, "fields 9;");
        Check.due("of a country", w.fault(), 7);
        w.feed(0, 0, 0, 0, 0);
        Check.due("feeding is no text", w.fault(), 7);
        w.undo();
        w.image();
        w.restore();
        Check.due("nor are these", w.fault(), 7);
        w.book(0);
        Check.due("one of no bytes is", w.fault(), -1);
        Check.country(w, "fields 8;");
        Check.due("none without", w.fault(), -1);
        Check.work(w, "again 0[".repeat(18));
        Check.due("far", w.fault(), 48);
        Check.country(w, " ".repeat(599) + "y");
        Check.due("at the last byte there is", w.fault(), 599);
    }

    // 8: "The latest WORK that was done is undone: how many are left; -1: there is none."

    private static void undo() {
        DeadWires w = Check.land("fields 2;wire 0 1 9;thing 0 1;person 0 9;");
        Check.due("none", w.undo(), -1);
        Check.due("no refusal", w.status(0) + w.status(1), 0);
        for (int i = 0; i < 16; i++) {
            Check.work(w, "hour;");
        }
        for (int i = 15; i >= 0; i--) {
            Check.due("left", w.undo(), i);
            Check.due("hour", w.told(4), i);
        }
        Check.due("none", w.undo(), -1);
        Check.work(w, "lift 0 0;");
        Check.work(w, "hour");
        Check.due("a faulty one was not done", w.undo(), 0);
        Check.due("it was the one ahead", w.told(8), 0);
        Check.work(w, "lift 0 0;move 0 3;cross 0 0;cut 0;hour;");
        Check.due("undone", w.undo(), 0);
        int[] due = {2, 1, 1, 1, 0, 0, 0, 2, 0, 0, 0, 0};
        for (int what = 0; what < due.length; what++) {
            Check.due("told " + what + " behind it", w.told(what), due[what]);
        }
        Check.due("where he was", w.person(0, 1), 0);
        Check.due("not tired", w.person(0, 2), 0);
        Check.due("H", w.wire(0, 2), 9);
        Check.due("where it lay", w.thing(0, 1), 0);
    }

    // 9: "10 STEPS REFUSED by the latest WORK (0 ahead of any, behind undo(), restore()), .. IllegalArgumentException:
    // another what (so below)."

    private static void told() {
        whats("told", 11, (w, what) -> w.told(what));
        DeadWires w = Check.land("fields 2;wire 0 1 9;");
        Check.due("ahead of any", w.told(10), 0);
        w.image();
        Check.work(w, "cut 0;cut 0;cut 0;");
        Check.due("two", w.told(10), 2);
        Check.work(w, "cut 0;");
        Check.due("one by the latest", w.told(10), 1);
        w.undo();
        Check.due("behind undo, not those of the one ahead", w.told(10), 0);
        Check.work(w, "cut 0;");
        Check.due("one", w.told(10), 1);
        w.restore();
        Check.due("behind restore", w.told(10), 0);
        DeadWires x = Check.land("fields 4;wire 0 1 9;wire 1 2 1;wire 2 3 2;thing 0 1;thing 0 1;person 0 9;pliers 5;");
        Check.book(x, "1 1;4 4;");
        Check.work(x, "lift 0 1;cross 0 0;cross 0 0;cross 0 0;hour;cut 0;cut 0;");
        int[] due = {4, 3, 2, 1, 1, 2, 1, 4, 2, 2, 1, 3};
        for (int what = 0; what < due.length; what++) {
            Check.due("told " + what, x.told(what), due[what]);
        }
    }

    // 10: "NoSuchElementException: no such FIELD, WIRE, THING, PERSON (so below, ahead of others)."

    private static void field() {
        ones("field", 4, (w, field) -> w.field(field, 0));
        whats("field's what", 3, (w, what) -> w.field(3, what));
        Seen.leavesMissing("field 4, what 4", w -> w.field(4, 4));
        DeadWires w = Check.land("fields 8;wire 0 7 9;wire 7 1 1;thing 7 9;person 7 9;person 0 9;");
        Check.due("lies in the last", w.field(7, 0), 1);
        Check.work(w, "lift 0 0;");
        Check.due("none carried", w.field(7, 0), 0);
        Check.due("persons", w.field(7, 1), 1);
        Check.due("wires at it", w.field(7, 2), 2);
        Check.due("to cross to", w.field(7, 3), 3);
        Check.work(w, "hour;");
        Check.due("not over a live one", w.field(7, 3), 1);
        Check.due("wires at it, live or not", w.field(7, 2), 2);
        Check.due("to the last", w.field(0, 3), 128);
        Check.due("from nowhere", w.field(2, 3), 0);
    }

    // 11

    private static void wire() {
        ones("wire", 3, (w, wire) -> w.wire(wire, 0));
        whats("wire's what", 6, (w, what) -> w.wire(2, what));
        Seen.leavesMissing("wire 3, what 7", w -> w.wire(3, 7));
        DeadWires w = Check.land("fields 3;wire 2 0 4;wire 1 2 5;");
        Check.work(w, "move 0 7;again 4[hour;];");
        wireIs(w, 0, 2, 0, 11, 4, 0, 0, 7);
        wireIs(w, 1, 1, 2, 5, 5, 0, 0, 1);
        Check.work(w, "hour;cut 0;");
        wireIs(w, 0, 2, 0, 11, 4, 0, 1, 99);
        wireIs(w, 1, 1, 2, 5, 5, 1, 0, 0);
    }

    private static void wireIs(DeadWires w, int wire, int... due) {
        for (int what = 0; what < due.length; what++) {
            Check.due("wire " + wire + " " + what, w.wire(wire, what), due[what]);
        }
    }

    // 12

    private static void thing() {
        ones("thing", 4, (w, thing) -> w.thing(thing, 0));
        whats("thing's what", 2, (w, what) -> w.thing(3, what));
        Seen.leavesMissing("thing 4, what 3", w -> w.thing(4, 3));
        DeadWires w = Check.land("fields 2;wire 0 1 9;thing 0 1;person 0 9;");
        Check.due("carried by none", w.thing(0, 2), -1);
        Check.work(w, "lift 0 0;cross 0 0;");
        Check.due("where it is carried", w.thing(0, 1), 1);
        Check.due("by whom", w.thing(0, 2), 0);
    }

    // 13

    private static void person() {
        ones("person", 2, (w, person) -> w.person(person, 0));
        whats("person's what", 4, (w, what) -> w.person(1, what));
        Seen.leavesMissing("person 2, what 5", w -> w.person(2, 5));
        DeadWires w = Check.land("fields 2;wire 0 1 9;thing 0 4;thing 0 1;thing 0 3;person 0 9;person 0 8;");
        Check.work(w, "lift 0 0;lift 1 1;lift 0 2;cross 0 0;");
        int[] first = {9, 1, 2, 7, 5};
        int[] second = {8, 0, 0, 1, 2};
        for (int what = 0; what < 5; what++) {
            Check.due("person 0 " + what, w.person(0, what), first[what]);
            Check.due("person 1 " + what, w.person(1, what), second[what]);
        }
    }

    // 14: "TOLL of a PERSON by a WIRE now (at its ends or not)."

    private static void toll() {
        ones("toll's person", 2, (w, person) -> w.toll(person, 0));
        ones("toll's wire", 3, (w, wire) -> w.toll(0, wire));
        Seen.leavesMissing("both", w -> w.toll(2, 3));
        DeadWires w = Check.land("fields 3;wire 0 1 9;wire 1 2 4;person 0 9;");
        Check.law(w, "left");
        Check.due("at its end", w.toll(0, 0), 9);
        Check.due("far from it", w.toll(0, 1), 4);
        Check.work(w, "again 5[hour;];");
        Check.due("live", w.toll(0, 1), 0);
    }

    // 15: "load (0 to 180), strong (1 to 40), tired (0 to 60), left (0 to 99), hour (0 to 400), wires (0 to 12), person
    // (0 to 4)"

    private static void would() {
        bounds("load", 0, 180, Check.WRONG, (w, v) -> w.would(v, 1, 0, 0, 0, 0, 0));
        bounds("strong", 1, 40, Check.WRONG, (w, v) -> w.would(0, v, 0, 0, 0, 0, 0));
        bounds("tired", 0, 60, Check.WRONG, (w, v) -> w.would(0, 1, v, 0, 0, 0, 0));
        bounds("left", 0, 99, Check.WRONG, (w, v) -> w.would(0, 1, 0, v, 0, 0, 0));
        bounds("hour", 0, 400, Check.WRONG, (w, v) -> w.would(0, 1, 0, 0, v, 0, 0));
        bounds("wires", 0, 12, Check.WRONG, (w, v) -> w.would(0, 1, 0, 0, 0, v, 0));
        // there is no such person in the country; the law is asked, not he
        bounds("person", 0, 4, Check.WRONG, (w, v) -> w.would(0, 1, 0, 0, 0, 0, v));
        Seen.leavesWrong("all of them count as one refusal", w -> w.would(-1, 0, -1, -1, -1, -1, -1));
    }

    // 16: "Whether cross could be done now."

    private static void can() {
        ones("can's person", 2, (w, person) -> w.can(person, 0) ? 1 : 0);
        ones("can's wire", 3, (w, wire) -> w.can(0, wire) ? 1 : 0);
        DeadWires w = Check.land("fields 3;wire 0 1 1;wire 1 2 9;person 0 9;");
        Check.due("can", w.can(0, 0) ? 1 : 0, 1);
        Check.due("not at an end", w.can(0, 1) ? 1 : 0, 0);
        Check.law(w, "30");
        Check.work(w, "cross 0 0;");
        Check.due("just 60", w.can(0, 0) ? 1 : 0, 1);
        Check.law(w, "31");
        Check.due("61", w.can(0, 0) ? 1 : 0, 0);
        Check.law(w, "0");
        Check.work(w, "hour;");
        Check.due("live", w.can(0, 0) ? 1 : 0, 0);
        Check.work(w, "cut 0;");
        Check.due("cut", w.can(0, 0) ? 1 : 0, 1);
    }

    // 17: "In n HOURS (0 to 99), nothing else being done: .. 2 the WIRE that goes LIVE at that HOUR (of some the first;
    // NONE)."

    private static void ahead() {
        bounds("ahead", 0, 99, Check.WRONG, (w, n) -> w.ahead(n, 0));
        whats("ahead's what", 2, (w, what) -> w.ahead(99, what));
        DeadWires w = Check.land("fields 4;wire 0 1 99;wire 1 2 7;wire 2 3 7;person 0 9;person 0 9;");
        Check.due("not yet", w.ahead(98, 0), 6);
        Check.due("at 99", w.ahead(99, 0), 7);
        Check.due("the one at 99", w.ahead(99, 2), 0);
        Check.due("none at 98", w.ahead(98, 2), -1);
        Check.due("of some the first", w.ahead(7, 2), 1);
        Check.due("none any more", w.ahead(8, 2), -1);
        Check.work(w, "cut 1;");
        Check.due("not the cut one", w.ahead(7, 2), 2);
        Check.work(w, "move 2 1;");
        Check.due("nor where it was told to", w.ahead(7, 2), -1);
        Check.due("but as moved", w.ahead(8, 2), 2);
        Check.law(w, "11 + person");
        Check.work(w, "cross 0 0;cross 1 0;");
        Check.due("together", w.ahead(0, 1), 23);
        Check.due("each by 5 less", w.ahead(2, 1), 3);
        Check.due("0 at least, each", w.ahead(3, 1), 0);
        Check.work(w, "hour;");
        Check.due("from now on", w.ahead(98, 2), 0);
        Check.due("99 from now is the 100th", w.ahead(99, 2), -1);
    }

    // 18 to 21

    private static void pairsOfFields() {
        OfTwo[] asked = {(w, a, b) -> w.arrives(a, b), (w, a, b) -> w.waits(a, b), (w, a, b) -> w.grant(a, b),
            (w, a, b) -> w.pliers(a, b)};
        String[] names = {"arrives", "waits", "grant", "pliers"};
        int[] same = {0, 200, 0, 0};
        for (int i = 0; i < asked.length; i++) {
            OfTwo ask = asked[i];
            ones(names[i], 4, (w, a) -> ask.ask(w, a, 0));
            ones(names[i] + "' other", 4, (w, b) -> ask.ask(w, 0, b));
            Seen.leavesMissing(names[i] + " of the same that is none", w -> ask.ask(w, 4, 4));
            Check.due(names[i] + " of one field", ask.ask(Check.land("fields 1;"), 0, 0), same[i]);
        }
        DeadWires w = Check.land("fields 4;wire 0 1 9;wire 1 2 9;wire 2 3 9;pliers 9;");
        Check.work(w, "cut 1;");
        Check.due("pliers: the cut one is not counted", w.pliers(0, 3), 5);
        Check.due("nor as a bit", w.pliers(0, 2), 1);
    }

    // 22

    private static void haul() {
        ones("haul", 2, (w, person) -> w.haul(person, 0));
        whats("haul's what", 1, (w, what) -> w.haul(1, what));
        Seen.leavesMissing("haul of 2, what 2", w -> w.haul(2, 2));
    }

    // 23, 24

    private static void fitsAndLook() {
        whats("fits", 1, (w, what) -> w.fits(what));
        whats("look", 1, (w, what) -> w.look(what));
    }

    // 25

    private static void parts() {
        bounds("parts", 0, 99, Check.WRONG, (w, n) -> w.parts(n));
    }

    // 26: "TINGLE of n (0 to 12), q (0 to 16): above (part 0), below (part 1), in least terms."

    private static void tingle() {
        bounds("tingle's n", 0, 12, Check.WRONG, (w, n) -> w.tingle(n, 8, 1));
        bounds("tingle's q", 0, 16, Check.WRONG, (w, q) -> w.tingle(12, q, 0));
        whats("tingle's part", 1, (w, part) -> w.tingle(12, 15, part));
        DeadWires w = new DeadWires();
        Check.due("nobody: 0", w.tingle(0, 16, 0), 0);
        Check.due("of 1", w.tingle(0, 16, 1), 1);
        Check.due("in least terms", w.tingle(1, 8, 0), 1);
        Check.due("1 of 2", w.tingle(1, 8, 1), 2);
        Check.due("the greatest below", w.tingle(11, 1, 1), 1L << 44);
        Check.due("with what is above", w.tingle(11, 1, 0), 11 * 576650390625L);
    }

    // 27: "LEAN of two by v, w (0 to 99)"

    private static void lean() {
        bounds("v", 0, 99, Check.WRONG, (w, v) -> w.lean(v, 0, 0));
        bounds("w", 0, 99, Check.WRONG, (w, v) -> w.lean(0, v, 0));
        whats("lean's what", 2, (w, what) -> w.lean(1, 1, what));
    }

    // 28: "What a WIRE gets of n (0 to 999) by GRACE among told WIRES (0, if it is none of them).
    // IllegalArgumentException: bits of no WIRES."

    private static void grace() {
        ones("grace's wire", 3, (w, wire) -> w.grace(wire, 7, 1));
        bounds("grace's bits", 0, 7, Check.WRONG, (w, bits) -> w.grace(0, bits, 1));
        bounds("grace's n", 0, 999, Check.WRONG, (w, n) -> w.grace(0, 7, n));
        for (int bits : new int[] {9, 15, 1 << 12, 1 << 30, -8}) {
            Seen.leavesWrong("bits " + bits, w -> w.grace(0, bits, 1));
        }
        Seen.leavesMissing("no such wire, ahead of bits of none", w -> w.grace(3, 8, 1000));
    }

    // 29: "The WIRE that goes LIVE next, not LIVE or CUT now (what 0), of alike ones the first, in how many HOURS (1);
    // NONE both: there is none."

    private static void next() {
        whats("next", 1, (w, what) -> w.next(what));
        DeadWires w = Check.land("fields 5;wire 0 1 9;wire 1 2 3;wire 2 3 3;wire 3 4 2;");
        Check.due("next", w.next(0), 3);
        Check.due("in 2", w.next(1), 2);
        Check.work(w, "hour;");
        Check.due("in 1", w.next(1), 1);
        Check.work(w, "hour;");
        Check.due("of alike ones the first", w.next(0), 1);
        Check.work(w, "cut 1;");
        Check.due("not cut", w.next(0), 2);
        Check.work(w, "hour;");
        Check.due("the last", w.next(0), 0);
        Check.due("in 6", w.next(1), 6);
        Check.work(w, "cut 0;");
        Check.due("none", w.next(0), -1);
        Check.due("none", w.next(1), -1);
    }

    // 30: "The FIELD with most WIRES at it (the harp; what 0), of alike ones the first, how many (1); NONE both: there
    // are no FIELDS."

    private static void harp() {
        whats("harp", 1, (w, what) -> w.harp(what));
        Check.due("no fields", new DeadWires().harp(0), -1);
        Check.due("no fields", new DeadWires().harp(1), -1);
        Check.due("one without wires", Check.land("fields 1;").harp(0), 0);
        Check.due("none at it", Check.land("fields 1;").harp(1), 0);
        DeadWires last = Check.land("fields 8;wire 7 0 1;wire 7 1 1;wire 7 2 1;wire 7 3 1;wire 7 4 1;wire 7 5 1;wire 7 6 1;");
        Check.due("the last", last.harp(0), 7);
        Check.due("seven", last.harp(1), 7);
        DeadWires alike = Check.land("fields 4;wire 2 3 1;wire 3 1 1;wire 1 2 1;");
        Check.due("of alike ones the first", alike.harp(0), 1);
    }

    // 31: "PERSONS (bits) who can't cross any WIRE now."

    private static void stuck() {
        DeadWires w = Check.land("fields 4;wire 0 1 1;wire 2 1 9;person 0 9;person 1 9;person 3 9;person 2 9;person 3 9;");
        Check.due("who are at none", w.stuck(), 20);
        Check.work(w, "hour;");
        Check.due("and who is at a live one alone", w.stuck(), 21);
        Check.law(w, "40");
        Check.work(w, "cross 3 1;");
        Check.due("and who is too tired", w.stuck(), 29);
        Check.work(w, "cut 0;hour;hour;hour;hour;");
        Check.due("rested, and by the cut one", w.stuck(), 20);
        Check.due("nobody", Check.land("fields 1;").stuck(), 0);
        Check.due("no wires", Check.land("fields 1;person 0 1;person 0 1;").stuck(), 3);
    }

    // 32: "WIRES (bits) that were moved by now (H unlike as told)."

    private static void moved() {
        DeadWires w = Check.land("fields 4;wire 0 1 1;wire 2 1 9;wire 2 3 9;");
        Check.due("none", w.moved(), 0);
        Check.work(w, "move 0 1;move 2 20;");
        Check.due("two", w.moved(), 5);
        Check.work(w, "cut 2;hour;hour;");
        Check.due("cut or live ones, too", w.moved(), 5);
        w.undo();
        w.undo();
        Check.due("undone", w.moved(), 0);
    }

    // 33: "WIRES (bits) at a FIELD that are LIVE (what 0), that are CUT (1), that are neither (2)."

    private static void gates() {
        ones("gates", 4, (w, field) -> w.gates(field, 0));
        whats("gates' what", 2, (w, what) -> w.gates(3, what));
        Seen.leavesMissing("gates of 4, what 3", w -> w.gates(4, 3));
        DeadWires w = Check.land("fields 4;wire 0 1 1;wire 2 0 1;wire 0 3 9;wire 1 2 1;");
        Check.work(w, "hour;cut 1;");
        Check.due("live", w.gates(0, 0), 1);
        Check.due("cut", w.gates(0, 1), 2);
        Check.due("neither", w.gates(0, 2), 4);
        Check.due("live at 1", w.gates(1, 0), 9);
        Check.due("cut at 1", w.gates(1, 1), 0);
    }

    // 34: "FIELDS (bits) where one can be, from a FIELD, in n HOURS (0 to 99) or fewer, as in ARRIVES."

    private static void ground() {
        ones("ground", 4, (w, field) -> w.ground(field, 99));
        bounds("ground's n", 0, 99, Check.WRONG, (w, n) -> w.ground(3, n));
        Seen.leavesMissing("ground of 4 in 100", w -> w.ground(4, 100));
        DeadWires w = Check.land("fields 8;wire 0 1 1;wire 1 2 2;wire 2 3 3;wire 3 4 4;wire 4 5 5;wire 5 6 6;wire 6 7 7;");
        for (int n = 0; n <= 9; n++) {
            Check.due("in " + n, w.ground(0, n), Math.min(255, (2 << n) - 1));
        }
        Check.work(w, "hour;");
        Check.due("the first is live", w.ground(0, 99), 1);
    }

    // 35: "The PERSON who could carry most more (what 0), of alike ones the first, how much (1): S less load; NONE both:
    // there are none."

    private static void freest() {
        whats("freest", 1, (w, what) -> w.freest(what));
        Check.due("none", Check.land("fields 1;").freest(0), -1);
        Check.due("none", Check.land("fields 1;").freest(1), -1);
        DeadWires w = Check.land("fields 1;thing 0 1;thing 0 2;thing 0 30;person 0 38;person 0 40;person 0 40;");
        Check.due("of alike ones the first", w.freest(0), 1);
        Check.due("40", w.freest(1), 40);
        Check.work(w, "lift 1 0;");
        Check.due("then the other", w.freest(0), 2);
        Check.work(w, "lift 2 1;");
        Check.due("39", w.freest(1), 39);
        Check.due("the one again", w.freest(0), 1);
        Check.work(w, "lift 1 2;");
        Check.due("38 and 38: the first", w.freest(0), 0);
        DeadWires full = Check.land("fields 1;thing 0 1;person 0 1;");
        Check.work(full, "lift 0 0;");
        Check.due("who is full is the freest still", full.freest(0), 0);
        Check.due("by 0", full.freest(1), 0);
    }

    // 36: "An AUTUMN of so many HOURS (1 to 96), Q (0 to 16)"

    private static void autumn() {
        bounds("autumn's q", 0, 16, Check.WRONG, (w, q) -> w.autumn(1, q, 9, 0));
        bounds("autumn's hours", 1, 96, Check.WRONG, (w, hours) -> w.autumn(1, 8, hours, 1));
        whats("autumn's what", 3, (w, what) -> w.autumn(1, 8, 96, what));
        for (int seed : new int[] {0, -1, LEAST, GREATEST}) {
            Seen.leaves("any seed", 0, w -> w.autumn(seed, 16, 96, 0) < 0 ? 1 : 0);
        }
        DeadWires w = Check.land("fields 2;wire 0 1 96;person 0 9;");
        Check.law(w, "0");
        Check.due("96 crossings in 96 hours", w.autumn(1, 0, 96, 0), 96);
        Check.due("live then", w.autumn(1, 0, 96, 2), 1);
        Check.due("not in 95", w.autumn(1, 0, 95, 2), 0);
        Check.work(w, "cross 0 0;hour;");
        Check.due("crossings in it alone", w.autumn(1, 0, 95, 0), 95);
        Check.due("from this hour on", w.autumn(1, 0, 96, 0), 95);
    }

    // 37: "Of so many SEEDS (1 to 20; seed, seed and 1, ..) .. (IllegalArgumentException: no such PERSON, also for 0, 1.)"

    private static void span() {
        bounds("many", 1, 20, Check.WRONG, (w, many) -> w.span(1, many, 8, 9, 0, 0));
        bounds("span's q", 0, 16, Check.WRONG, (w, q) -> w.span(1, 2, q, 9, 0, 0));
        bounds("span's hours", 1, 96, Check.WRONG, (w, hours) -> w.span(1, 2, 8, hours, 0, 0));
        whats("span's what", 2, (w, what) -> w.span(1, 20, 8, 9, what, 0));
        for (int i = 0; i < 3; i++) {
            int what = i;
            bounds("span's person for " + what, 0, 1, Check.WRONG, (w, person) -> w.span(1, 2, 8, 9, what, person));
        }
        DeadWires w = Check.land("fields 3;wire 0 1 9;wire 1 2 9;person 0 9;person 1 9;");
        int elsewhere = 0;
        for (int i = 0; i < 20; i++) {
            // by a seed alone he is elsewhere or not; and of 20 as often as of each
            elsewhere += w.span(40 + i, 1, 3, 5, 2, 1);
        }
        Check.due("twenty seeds in a row", w.span(40, 20, 3, 5, 2, 1), elsewhere);
        DeadWires alone = Check.land("fields 2;wire 0 1 99;person 0 9;");
        Check.law(alone, "0");
        Check.due("by an odd number of crossings elsewhere", alone.span(7, 20, 0, 5, 2, 0), 20);
        Check.due("of one seed", alone.span(7, 1, 0, 5, 2, 0), 1);
        Check.due("by an even number back", alone.span(7, 20, 0, 6, 2, 0), 0);
        Check.work(alone, "cross 0 0;");
        Check.due("elsewhere than now, not than at first", alone.span(7, 20, 0, 5, 2, 0), 20);
        Check.due("of one seed the fewest are the most", w.span(9, 1, 3, 5, 0, 0), w.span(9, 1, 3, 5, 1, 0));
        Check.due("and those of the autumn", w.span(9, 1, 3, 5, 0, 0), w.autumn(9, 3, 5, 0));
    }

    // 38: "An IMAGE of all that WORK changes, and of the WORKS that can be undone: how many there are; -1: there are 3."

    private static void image() {
        DeadWires w = Check.land("fields 2;wire 0 1 9;person 0 9;");
        for (int i = 1; i <= 3; i++) {
            Check.due("image", w.image(), i);
            Check.work(w, "hour;");
        }
        Check.due("there are 3", w.image(), -1);
        Check.due("still", w.count(0), 3);
        Check.due("no refusal", w.status(0) + w.status(1), 0);
        Check.due("the third is the latest still", w.restore(), 2);
        Check.due("hour", w.told(4), 2);
        Check.due("room again", w.image(), 3);
        DeadWires other = Check.land("fields 2;wire 0 1 9;person 0 9;");
        // law and book are none that work changes
        other.image();
        Check.law(other, "7");
        Check.book(other, "1 1;");
        Check.due("restore", other.restore(), 0);
        Check.due("the law stays", other.toll(0, 0), 7);
        Check.due("the book stays", other.told(9), 1);
    }

    // 39: "All is as in the latest IMAGE, which is gone: how many are left; -1: there is none."

    private static void restore() {
        DeadWires w = Check.land("fields 2;wire 0 1 9;person 0 9;");
        Check.due("none", w.restore(), -1);
        Check.due("no refusal", w.status(0) + w.status(1), 0);
        Check.work(w, "cross 0 0;");
        w.image();
        Check.work(w, "move 0 4;cut 0;cross 0 0;hour;");
        Check.due("none left", w.restore(), 0);
        Check.due("where he was", w.person(0, 1), 1);
        Check.due("crossings", w.told(11), 1);
        Check.due("tired", w.person(0, 2), 1);
        Check.due("pliers", w.told(7), 2);
        Check.due("cut", w.told(6), 0);
        Check.due("H", w.wire(0, 2), 9);
        Check.due("works", w.count(2), 1);
        Check.due("gone", w.restore(), -1);
        Check.due("undo", w.undo(), 0);
        Check.due("where he was at first", w.person(0, 1), 0);
        // an image of a full row of works, brought back behind their being undone
        for (int i = 0; i < 16; i++) {
            Check.work(w, "hour;");
        }
        w.image();
        for (int i = 0; i < 16; i++) {
            w.undo();
        }
        Check.work(w, "cut 0;");
        Check.work(w, "cross 0 0;");
        Check.work(w, "cross 0 0;");
        Check.due("restore", w.restore(), 0);
        Check.due("all 16", w.count(2), 16);
        Check.due("full", w.work(0), -20);
        for (int i = 15; i >= 0; i--) {
            Check.due("undo", w.undo(), i);
            Check.due("hour", w.told(4), i);
            Check.due("cut", w.told(6), 0);
        }
    }

    // 40: "How many calls were refused: 0 NoSuchElementException, 1 IllegalArgumentException; NONE for others. (No IMAGE
    // keeps it.)"

    private static void status() {
        for (int other : new int[] {-1, 2, LEAST, GREATEST}) {
            Seen.leaves("status " + other, -1, w -> w.status(other));
        }
        DeadWires w = Check.land("fields 1;");
        w.image();
        for (int i = 1; i <= 5; i++) {
            Check.missing("missing", () -> w.field(1, 0));
            Check.wrong("wrong", () -> w.told(12));
            Check.wrong("wrong", () -> w.parts(100));
            Check.due("missing ones", w.status(0), i);
            Check.due("wrong ones", w.status(1), 2 * i);
        }
        w.restore();
        w.undo();
        Check.due("missing ones", w.status(0), 5);
        Check.country(w, "fields 2;");
        Check.due("wrong ones", w.status(1), 10);
        Check.country(w, "fields");
        w.feed(0, 0, 0, 0, 0);
        w.country(0);
        Check.due("answers below 0 are no refusals", w.status(0) + w.status(1), 15);
    }

    // 41: "0 IMAGES, 1 bytes of the TAPE, 2 WORKS that can be undone; NONE for others."

    private static void count() {
        for (int other : new int[] {-1, 3, LEAST, GREATEST}) {
            Seen.leaves("count " + other, -1, w -> w.count(other));
        }
        DeadWires w = Check.land("fields 1;");
        Check.due("images", w.count(0), 0);
        Check.due("bytes", w.count(1), 0);
        Check.due("works", w.count(2), 0);
        w.image();
        w.feed(1, 2, 3, 4, 5);
        w.feed(1, 2, 3, 4, 5);
        Check.due("images", w.count(0), 1);
        Check.due("bytes", w.count(1), 40);
        w.work(0);
        Check.due("bytes", w.count(1), 0);
        Check.due("works", w.count(2), 1);
        w.restore();
        Check.due("images", w.count(0), 0);
        Check.due("works of the image", w.count(2), 0);
    }

    // all at their most at once: 8 fields, 12 wires, 6 things, 5 persons, 9 pairs of pliers

    private static DeadWires most() {
        StringBuilder text = new StringBuilder("fields 8;pliers 9;");
        for (int i = 0; i < 7; i++) {
            text.append("wire 0 ").append(i + 1).append(' ').append(10 + i).append(';');
        }
        for (int i = 0; i < 5; i++) {
            text.append("wire 1 ").append(i + 2).append(' ').append(17 + i).append(';');
        }
        for (int i = 1; i <= 6; i++) {
            text.append("thing 7 ").append(i).append(';');
        }
        text.append("person 7 21;".repeat(5));
        return Check.land(text.toString());
    }

    private static void fullCountry() {
        DeadWires w = most();
        Check.due("all live in 21", w.ahead(21, 0), 4095);
        Check.due("all but the last in 20", w.ahead(20, 0), 2047);
        Check.due("the last at 21", w.ahead(21, 2), 11);
        Check.due("arrives", w.arrives(7, 6), 2);
        Check.due("waits", w.waits(7, 6), 13);
        Check.due("grant", w.grant(7, 6), 0);
        Check.due("pliers", w.pliers(7, 6), 96);
        Check.due("ground", w.ground(7, 2), 255);
        Check.due("parts now", w.parts(0), 1);
        Check.due("parts at 20", w.parts(20), 7);
        Check.due("parts at 21", w.parts(21), 8);
        Check.due("pairs", w.fits(0), 240);
        Check.due("look", w.look(0), 16);
        Check.due("119 and 121", w.look(1), 121);
        Check.due("grace", w.grace(11, 4095, 999), 21);
        Check.due("next", w.next(0), 0);
        Check.due("harp", w.harp(1), 7);
        Check.due("gates", w.gates(0, 2), 127);
        Check.due("stuck", w.stuck(), 0);
        Check.due("moved", w.moved(), 0);
        Check.due("haul", w.haul(4, 1), 63);
        Check.due("freest", w.freest(0), 0);
        Check.work(w, "lift 4 0;lift 4 1;lift 4 2;lift 4 3;lift 4 4;lift 4 5;move 11 1;cut 10;cross 4 6;");
        Check.due("all carried", w.told(8), 63);
        Check.due("by the last", w.person(4, 4), 63);
        Check.due("load", w.person(4, 3), 21);
        Check.due("tired", w.person(4, 2), 6);
        Check.due("moved the last", w.moved(), 2048);
        Check.due("cut", w.told(6), 1024);
        Check.due("the others", w.field(7, 1), 15);
        Check.due("where the last thing is", w.thing(5, 1), 0);
        Check.due("pairs without the cut one", w.fits(0), 220);
        for (int what = 0; what < 4; what++) {
            Check.due("autumn", w.autumn(-5, 16, 96, what) < 0 ? 1 : 0, 0);
        }
        Check.due("span", w.span(-5, 20, 0, 96, 2, 4) > 20 ? 1 : 0, 0);
        Check.due("image", w.image(), 1);
        Check.due("undo", w.undo(), 0);
        Check.due("none carried", w.told(8), 0);
        Check.due("restore", w.restore(), 0);
        Check.due("all carried", w.told(8), 63);
    }

    private static void smallerBehindTheFull() {
        DeadWires w = most();
        Check.law(w, "20");
        Check.book(w, "0 0;1 0;2 0;3 0;4 0;5 0;6 0;7 0;");
        Check.work(w, "lift 0 0;lift 1 1;move 11 1;cut 0;cross 0 6;cross 1 6;cross 2 6;cross 3 6;cross 4 6;");
        w.image();
        DeadWires other = new DeadWires();
        String small = "fields 2;wire 0 1 9;thing 0 3;person 1 9;person 0 9;";
        Check.due("a smaller one", Check.country(w, small), 1);
        Check.due("the same anew", Check.country(other, small), 1);
        for (int what = 0; what <= 11; what++) {
            Check.due("told " + what, w.told(what), other.told(what));
        }
        for (int i = 0; i < 2; i++) {
            Check.due("tired", w.person(i, 2), 0);
            Check.due("load", w.person(i, 3), 0);
            for (int what = 0; what < 4; what++) {
                Check.due("field " + i + " " + what, w.field(i, what), other.field(i, what));
            }
            Check.due("haul " + i, w.haul(i, 1), other.haul(i, 1));
            Check.due("look " + i, w.look(i), other.look(i));
            Check.due("fits " + i, w.fits(i), other.fits(i));
            Check.due("freest " + i, w.freest(i), other.freest(i));
            Check.due("harp " + i, w.harp(i), other.harp(i));
            Check.due("next " + i, w.next(i), other.next(i));
        }
        for (int what = 0; what < 4; what++) {
            Check.due("autumn " + what, w.autumn(11, 4, 30, what), other.autumn(11, 4, 30, what));
        }
        Check.due("stuck", w.stuck(), 0);
        Check.due("moved", w.moved(), 0);
        Check.due("parts", w.parts(0), 1);
        Check.due("tired together", w.ahead(0, 1), 0);
        Check.missing("no second wire", () -> w.wire(1, 0));
        Check.missing("no second thing", () -> w.thing(1, 0));
        Check.missing("no third person", () -> w.person(2, 0));
        Check.missing("no third field", () -> w.field(2, 0));
        Check.wrong("no second bit", () -> w.grace(0, 2, 1));
        Check.due("no such thing in work", Check.work(w, "lift 0 1;"), -8);
    }

    // "An object is used for at most 512 calls after it has been made"

    private static void fiveHundredAndTwelveCalls() {
        DeadWires w = new DeadWires();
        for (int i = 0; i < 511; i++) {
            Check.wrong("told", () -> w.told(12));
        }
        Check.due("the 512th call", w.status(1), 511);
        // works done and undone, images kept and brought back, over and over
        DeadWires x = Check.land("fields 2;wire 0 1 9;thing 0 1;person 0 9;");
        for (int i = 0; i < 50; i++) {
            Check.due("image", x.image(), 1);
            Check.due("work", Check.work(x, "lift 0 0;cross 0 0;hour;"), 3);
            Check.due("undo", x.undo(), 0);
            Check.due("work", Check.work(x, "cut 0;hour;"), 2);
            Check.due("restore", x.restore(), 0);
            Check.due("hour", x.told(4), 0);
        }
        DeadWires y = new DeadWires();
        for (int i = 0; i < 30; i++) {
            y.feed(0, 0, 0, 0, 0);
        }
        for (int i = 0; i < 481; i++) {
            Check.due("feed", y.feed(i, i, i, i, i), -1);
        }
        Check.due("the tape", y.count(1), 600);
    }
}
