/** The sentences of 'Terms' that name a bound, each with the last that is allowed and the first that is not. */
public final class TermsEdgesTest {
    private static final String TWO = "fields 2;wire 0 1 5;thing 0 7;thing 1 2;person 0 10;";

    public static void main(String[] args) {
        countryIsUpTo600Bytes();
        clausesEndWithSigns();
        clausesAtMost60();
        fieldsOneToEight();
        fieldsEightInAll();
        fieldsAreNumberedFromZeroOn();
        wiresTwelveAtMost();
        wireEndsToldAhead();
        wireNotBetweenOne();
        wireNotBetweenTwoTwice();
        wireLiveZeroTo99();
        things();
        persons();
        pliers();
        lawUpTo150Bytes();
        lawNothingMoreAtTheEnd();
        lawWithout();
        tollZeroTo40();
        lawNumbersTo999();
        lawNames();
        lawLeft();
        lawWires();
        lawWraps();
        lawCutsAndLeaves();
        lawByZero();
        workUpTo150Bytes();
        stepsNameWhatIsThere();
        moveOneTo20();
        againZeroTo40();
        bookUpTo60Bytes();
        bookEightLines();
        bookNoHourTwice();
        bookHoursTo40();
        bookWiresTo12();
        numbersAsManyDigits();
        wordsAsManyLetters();
        blanks();
        faultIsTheFirst();
        faultAtTheLength();
        faultAtTheFirstByte();
        sixOpenAtOneTime();
        ofOneTheLeast();
        Check.end();
    }

    private static void text(String kind, DeadWires w, String text, int due, int place) {
        int n = Check.feed(w, text);
        int got = kind.equals("country") ? w.country(n) : kind.equals("law") ? w.law(n)
                : kind.equals("work") ? w.work(n) : w.book(n);
        Check.due(kind + " '" + text + "'", got, due);
        Check.due("fault of '" + text + "'", w.fault(), place);
    }

    private static DeadWires country(String text, int wires) {
        DeadWires w = new DeadWires();
        text("country", w, text, wires, -1);
        return w;
    }

    private static void noCountry(String text, int fault, int place) {
        text("country", new DeadWires(), text, fault - 10, place);
    }

    private static DeadWires law(String text) {
        DeadWires w = Check.land(TWO);
        text("law", w, text, 1, -1);
        return w;
    }

    /** By values unlike each other: load 20, strong 30, tired 5, left 17, hour 100, wires 3, person 2. */
    private static void toll(String text, int due) {
        Check.due("toll by '" + text + "'", law(text).would(20, 30, 5, 17, 100, 3, 2), due);
    }

    private static void noLaw(String text, int fault, int place) {
        text("law", new DeadWires(), text, fault - 10, place);
    }

    private static void work(String text, int done) {
        text("work", Check.land(TWO), text, done, -1);
    }

    private static void noWork(String text, int fault, int place) {
        text("work", Check.land(TWO), text, fault - 10, place);
    }

    private static DeadWires book(String text, int lines) {
        DeadWires w = Check.land(TWO);
        text("book", w, text, lines, -1);
        Check.due("lines of '" + text + "'", w.told(9), lines);
        return w;
    }

    private static void noBook(String text, int fault, int place) {
        text("book", new DeadWires(), text, fault - 10, place);
    }

    // "A COUNTRY is a text of up to 600 bytes: { CLAUSE ";" }, at most 60."

    private static void countryIsUpTo600Bytes() {
        DeadWires w = country(" ".repeat(579) + "fields 2;wire 1 0 99;", 1);
        Check.due("the last of 600 bytes was read", w.wire(0, 2), 99);
        noCountry(" ".repeat(599) + "x", 1, 599);
        noCountry(" ".repeat(593) + "fields ", 1, 600);
        country("", 0);
        country(" ".repeat(600), 0);
    }

    private static void clausesEndWithSigns() {
        noCountry(";", 1, 0);
        noCountry("fields 2;;", 1, 9);
        noCountry("fields 2", 1, 8);
        noCountry("fields 2,", 1, 8);
        noCountry("fields 2 fields 2;", 1, 9);
        country("fields 2;", 0);
    }

    private static void clausesAtMost60() {
        Check.due("the 60th counts", country("pliers 1;".repeat(59) + "pliers 7;", 0).told(7), 7);
        noCountry("pliers 1;".repeat(60) + "pliers 7;", 3, 540);
        noCountry("pliers 1;".repeat(60) + "wire", 3, 540);
        noCountry("pliers 1;".repeat(60) + "  thing 9;", 3, 542);
        noCountry("pliers 1;".repeat(60) + "person", 3, 540);
        noCountry("pliers 1;".repeat(60) + "fields 1;", 3, 540);
        // a fault in the 60th is told ahead of there being a 61st
        noCountry("pliers 1;".repeat(59) + "pliers10;pliers 1;", 2, 537);
    }

    // ""fields" N (N more FIELDS, 1 to 8, numbered from 0 on, 8 in all at most)"

    private static void fieldsOneToEight() {
        Check.due("1 field", country("fields 1;", 0).told(0), 1);
        Check.due("8 fields", country("fields 8;", 0).told(0), 8);
        Check.due("no fields", country("pliers 2;", 0).told(0), 0);
        noCountry("fields 0;", 2, 7);
        noCountry("fields 9;", 2, 7);
    }

    private static void fieldsEightInAll() {
        Check.due("3 and 5", country("fields 3;fields 5;", 0).told(0), 8);
        Check.due("eight times 1", country("fields 1;".repeat(8), 0).told(0), 8);
        noCountry("fields 3;fields 6;", 2, 16);
        noCountry("fields 8;fields 1;", 2, 16);
        noCountry("fields 8;fields 0;", 2, 16);
        noCountry("fields 1;".repeat(9), 2, 79);
    }

    private static void fieldsAreNumberedFromZeroOn() {
        DeadWires w = country("fields 1;fields 2;person 2 9;person 0 9;", 0);
        Check.due("the last is 2", w.field(2, 1), 1);
        Check.due("the first is 0", w.field(0, 1), 2);
        Check.missing("there is no 3", () -> w.field(3, 0));
    }

    // ""wire" A B H (WIRES likewise, 12 at most: between FIELDS A and B, both told ahead, not one, not two that
    // a WIRE is between; it goes LIVE at HOUR H, 0 to 99)"

    private static void wiresTwelveAtMost() {
        String eleven = "fields 8;wire 0 1 1;wire 0 2 1;wire 0 3 1;wire 0 4 1;wire 0 5 1;wire 0 6 1;wire 0 7 1;"
                + "wire 1 2 1;wire 1 3 1;wire 1 4 1;wire 1 5 1;";
        country(eleven, 11);
        DeadWires w = country(eleven + "wire 7 6 42;", 12);
        Check.due("the 12th is number 11", w.wire(11, 2), 42);
        Check.due("its bit", w.gates(6, 2), 1 << 11 | 1 << 5);
        Check.missing("no 13th", () -> w.wire(12, 2));
        int behind = eleven.length() + 12;
        noCountry(eleven + "wire 7 6 42;wire 2 3 1;", 3, behind);
        noCountry(eleven + "wire 7 6 42; wire", 3, behind + 1);
        // likewise at its word, although its numbers are wrong too
        noCountry(eleven + "wire 7 6 42;wire 9 9 999;", 3, behind);
        country(eleven + "wire 7 6 42;thing 0 1;person 0 1;pliers 1;", 12);
    }

    private static void wireEndsToldAhead() {
        Check.due("A is the last", country("fields 2;wire 1 0 5;", 1).wire(0, 0), 1);
        Check.due("B is the last", country("fields 2;wire 0 1 5;", 1).wire(0, 1), 1);
        noCountry("fields 2;wire 2 0 5;", 2, 14);
        noCountry("fields 2;wire 0 2 5;", 2, 16);
        noCountry("wire 0 1 5;fields 2;", 2, 5);
        noCountry("fields 1;wire 0 1 5;fields 1;", 2, 16);
        country("fields 1;fields 1;wire 0 1 5;", 1);
    }

    private static void wireNotBetweenOne() {
        noCountry("fields 2;wire 0 0 5;", 2, 16);
        noCountry("fields 2;wire 1 01 5;", 2, 16);
    }

    private static void wireNotBetweenTwoTwice() {
        noCountry("fields 3;wire 0 1 5;wire 0 1 6;", 2, 27);
        noCountry("fields 3;wire 0 1 5;wire 1 0 6;", 2, 27);
        noCountry("fields 3;wire 0 1 5;wire 1 2 5;wire 2 0 5;wire 0 2 5;", 2, 49);
        country("fields 3;wire 0 1 5;wire 1 2 5;wire 2 0 5;", 3);
    }

    private static void wireLiveZeroTo99() {
        DeadWires w = country("fields 3;wire 0 1 0;wire 1 2 99;", 2);
        Check.due("H 0 is live at first", w.told(5), 1);
        Check.due("H 99", w.wire(1, 3), 99);
        noCountry("fields 2;wire 0 1 100;", 2, 18);
        noCountry("fields 2;wire 0 1 -1;", 1, 18);
    }

    // ""thing" F W (THINGS likewise, 6: in FIELD F, told ahead, WEIGHT W, 1 to 30)"

    private static void things() {
        String six = "fields 2;thing 0 1;thing 1 30;thing 0 1;thing 0 1;thing 0 1;thing 1 29;";
        DeadWires w = country(six, 0);
        Check.due("six", w.told(2), 6);
        Check.due("weight 1", w.thing(0, 0), 1);
        Check.due("weight 30", w.thing(1, 0), 30);
        Check.due("bits of the first and last", w.field(1, 0), 34);
        noCountry(six + "thing 0 1;", 3, six.length());
        noCountry(six + "thing 2 0;", 3, six.length());
        noCountry("fields 2;thing 0 0;", 2, 17);
        noCountry("fields 2;thing 0 31;", 2, 17);
        noCountry("fields 2;thing 2 1;", 2, 15);
        noCountry("thing 0 1;fields 1;", 2, 6);
    }

    // ""person" F S (PERSONS likewise, 5: in FIELD F, told ahead, STRONG S, 1 to 40)"

    private static void persons() {
        String five = "fields 2;person 0 1;person 1 40;person 0 1;person 0 1;person 1 39;";
        DeadWires w = country(five, 0);
        Check.due("five", w.told(3), 5);
        Check.due("strong 1", w.person(0, 0), 1);
        Check.due("strong 40", w.person(1, 0), 40);
        Check.due("bits of the second and last", w.field(1, 1), 18);
        noCountry(five + "person 0 1;", 3, five.length());
        noCountry(five + "person 2 0;", 3, five.length());
        noCountry("fields 2;person 0 0;", 2, 18);
        noCountry("fields 2;person 0 41;", 2, 18);
        noCountry("fields 2;person 2 1;", 2, 16);
        noCountry("person 0 1;fields 1;", 2, 7);
    }

    // ""pliers" N (0 to 9; 2 without; the last counts)"

    private static void pliers() {
        Check.due("0", country("pliers 0;", 0).told(7), 0);
        Check.due("9", country("pliers 9;", 0).told(7), 9);
        Check.due("without", country("", 0).told(7), 2);
        Check.due("the last", country("pliers 9;pliers 0;pliers 4;", 0).told(7), 4);
        noCountry("pliers 10;", 2, 7);
        DeadWires w = country("pliers 7;", 0);
        text("country", w, "fields 1;", 0, -1);
        Check.due("2 again, not those of the country before", w.told(7), 2);
    }

    // "A LAW is a text of up to 150 bytes: E, at the end nothing more; without: 1 + load / 4."

    private static void lawUpTo150Bytes() {
        toll("9-" + "0+".repeat(73) + "5", 14);
        toll(" ".repeat(147) + "1+6", 7);
        noLaw(" ".repeat(149) + ")", 1, 149);
        DeadWires w = new DeadWires();
        Check.feed(w, " ".repeat(151));
        Check.wrong("151", () -> w.law(151));
        Check.due("150 blanks", w.law(150), -9);
    }

    private static void lawNothingMoreAtTheEnd() {
        noLaw("1;", 1, 1);
        noLaw("1 1", 1, 2);
        noLaw("load load", 1, 5);
        noLaw("1)", 1, 1);
        noLaw("1]", 1, 1);
        noLaw("1,", 1, 1);
        noLaw("", 1, 0);
        toll("1   ", 1);
    }

    private static void lawWithout() {
        DeadWires w = new DeadWires();
        int[][] due = {{0, 1}, {3, 1}, {4, 2}, {7, 2}, {8, 3}, {155, 39}, {156, 40}, {159, 40}, {160, 40}, {180, 40}};
        for (int[] row : due) {
            Check.due("load " + row[0], w.would(row[0], 1, 60, 99, 400, 12, 4), row[1]);
        }
    }

    // "TOLL of a crossing: what comes out, 0 at least, 40 at most."

    private static void tollZeroTo40() {
        toll("39", 39);
        toll("40", 40);
        toll("41", 40);
        toll("999", 40);
        toll("1", 1);
        toll("0", 0);
        toll("0 - 1", 0);
        toll("0 - 999", 0);
        // only what comes out is cut, not what it comes from
        toll("(41 + 9) / 5", 10);
        toll("(0 - 9) * (0 - 2)", 18);
    }

    private static void lawNumbersTo999() {
        toll("999 - 970", 29);
        noLaw("1000", 2, 0);
        noLaw("1 + 1000", 2, 4);
        noLaw("4294967295", 2, 0);
        noLaw("load * 4294967296", 2, 7);
        toll("0000000000000009", 9);
    }

    private static void lawNames() {
        toll("load", 20);
        toll("strong", 30);
        toll("tired", 5);
        toll("left", 17);
        toll("hour - 63", 37);
        toll("wires", 3);
        toll("person", 2);
        noLaw("loa", 1, 0);
        noLaw("loadd", 1, 0);
        noLaw("Load", 1, 0);
        noLaw("field", 1, 0);
    }

    // ""left" (HOURS until the WIRE is LIVE, 99 at most; 99 if it is CUT)"

    private static void lawLeft() {
        DeadWires w = Check.land("fields 3;wire 0 1 99;wire 1 2 1;person 0 9;");
        Check.law(w, "left - 60");
        Check.due("99 left", w.toll(0, 0), 39);
        Check.due("1 left", w.wire(1, 6), 1);
        Check.work(w, "move 0 1;");
        Check.due("100 are told as 99", w.wire(0, 6), 99);
        Check.due("and reckoned so", w.toll(0, 0), 39);
        Check.work(w, "hour;hour;");
        Check.due("98 left", w.wire(0, 6), 98);
        Check.due("98 reckoned", w.toll(0, 0), 38);
        Check.due("a live one: 0", w.wire(1, 6), 0);
        Check.work(w, "cut 1;");
        Check.due("cut: 99", w.wire(1, 6), 99);
        Check.due("cut, reckoned", w.toll(0, 1), 39);
    }

    // ""wires" (at the FIELD where he is)"

    private static void lawWires() {
        DeadWires w = Check.land("fields 4;wire 0 1 9;wire 1 2 1;person 3 9;person 1 9;person 0 9;");
        Check.law(w, "wires");
        Check.due("none", w.toll(0, 0), 0);
        Check.due("two", w.toll(1, 0), 2);
        Check.due("one", w.toll(2, 1), 1);
    }

    // "Values are whole numbers of 32 bits that wrap"

    private static void lawWraps() {
        // 2^31 - 1 is still above 40, one more is far below 0
        toll("128*128*128*512*2-1", 40);
        toll("128*128*128*512*2", 0);
        toll("128*128*128*512*2-1+1", 0);
        // -2^31 less 1 is 2^31 - 1
        toll("0-128*128*128*512*2-1", 40);
        toll("128*128*128*512*4+7", 7);
        toll("(128*128*128*512*2-1)*2+9", 7);
    }

    // "/ cuts, % leaves (with the sign of what is divided), by 0 both are 0"

    private static void lawCutsAndLeaves() {
        toll("7/2", 3);
        toll("10+(0-7)/2", 7);
        toll("10+7/(0-2)", 7);
        toll("(0-7)/(0-2)", 3);
        toll("7%2", 1);
        toll("10+(0-7)%4", 7);
        toll("10+7%(0-4)", 13);
        toll("10+(0-7)%(0-4)", 7);
        // the least number by -1 wraps to itself, and leaves nothing
        toll("128*128*128*512*2/(0-1)/(0-999)/(0-999)+5", 0);
        toll("128*128*128*512*2%(0-1)+5", 5);
    }

    private static void lawByZero() {
        toll("9/0+3", 3);
        toll("9%0+3", 3);
        toll("9/(load-20)+3", 3);
        toll("9%(load-20)+3", 3);
        toll("0/0+3", 3);
    }

    // "WORK is a text of up to 150 bytes: { STEP ";" }."

    private static void workUpTo150Bytes() {
        work("hour;".repeat(30), 30);
        work("", 0);
        work(" ".repeat(150), 0);
        noWork("hour;".repeat(29) + "hours", 1, 145);
        noWork("hour;".repeat(29) + "hour ", 1, 150);
        DeadWires w = Check.land(TWO);
        Check.feed(w, " ".repeat(151));
        Check.wrong("151", () -> w.work(151));
        Check.due("150", w.work(150), 0);
    }

    // "STEP: "lift" P T, "set" P T, "cross" P W, "move" W N (1 to 20), "cut" W, "hour""

    private static void stepsNameWhatIsThere() {
        work("lift 0 0;", 1);
        work("lift 0 1;", 0);
        noWork("lift 1 0;", 2, 5);
        noWork("lift 0 2;", 2, 7);
        work("set 0 0;set 0 1;", 0);
        noWork("set 1 0;", 2, 4);
        noWork("set 0 2;", 2, 6);
        work("cross 0 0;", 1);
        noWork("cross 1 0;", 2, 6);
        noWork("cross 0 1;", 2, 8);
        noWork("move 1 1;", 2, 5);
        work("cut 0;", 1);
        noWork("cut 1;", 2, 4);
        noWork("hour 1;", 1, 5);
        text("work", new DeadWires(), "lift 0 0;", -8, 5);
        text("work", new DeadWires(), "set 0 0;", -8, 4);
        text("work", new DeadWires(), "cross 0 0;", -8, 6);
        text("work", new DeadWires(), "move 0 1;", -8, 5);
        text("work", new DeadWires(), "cut 0;", -8, 4);
        text("work", new DeadWires(), "hour;", 1, -1);
        text("work", Check.land("fields 1;person 0 1;"), "lift 0 0;", -8, 7);
    }

    private static void moveOneTo20() {
        noWork("move 0 0;", 2, 7);
        work("move 0 1;", 1);
        work("move 0 20;", 1);
        noWork("move 0 21;", 2, 7);
    }

    // ""again" N "[" { STEP ";" } "]" (N 0 to 40)"

    private static void againZeroTo40() {
        work("again 0[hour;];", 0);
        work("again 1[hour;];", 1);
        work("again 40[hour;];", 40);
        noWork("again 41[hour;];", 2, 6);
        work("again 40[];hour;", 1);
        noWork("again 1[;];", 1, 8);
        noWork("again 1[hour];", 1, 12);
        noWork("again 1[hour;]", 1, 14);
        noWork("again 1(hour;);", 1, 7);
        noWork("again 1[hour;;];", 1, 13);
        // steps that are never come to are read all the same
        noWork("again 0[cut 1;];", 2, 12);
    }

    // "A BOOK is one of up to 60 bytes: { K N ";" }, 8 lines at most, no K twice: K HOURS later (0 to 40)
    // N WIRES (0 to 12) are LIVE."

    private static void bookUpTo60Bytes() {
        Check.due("the last of 60 bytes was read", book(" ".repeat(55) + "10 1;", 1).told(9), 1);
        noBook(" ".repeat(59) + "x", 1, 59);
        noBook(" ".repeat(55) + "40 12", 1, 60);
        DeadWires w = new DeadWires();
        Check.feed(w, " ".repeat(61));
        Check.wrong("61", () -> w.book(61));
        Check.due("60", w.book(60), 0);
    }

    private static void bookEightLines() {
        book("", 0);
        book("40 12;0 0;1 0;2 0;3 0;4 0;5 0;6 0;", 8);
        noBook("40 12;0 0;1 0;2 0;3 0;4 0;5 0;6 0;7 0;", 3, 34);
        noBook("40 12;0 0;1 0;2 0;3 0;4 0;5 0;6 0; 7", 3, 35);
        noBook("40 12;0 0;1 0;2 0;3 0;4 0;5 0;6 0;7 13;", 3, 34);
        noBook("7 12;0 0;1 0;2 0;3 0;4 0;5 0;6 0;40 0;", 3, 33);
    }

    private static void bookNoHourTwice() {
        noBook("7 1;7 1;", 2, 4);
        noBook("0 1;1 1;00 1;", 2, 8);
        book("7 1;8 1;17 1;", 3);
        DeadWires w = book("7 1;", 1);
        text("book", w, "7 2;", 1, -1);
    }

    private static void bookHoursTo40() {
        book("0 1;", 1);
        book("40 1;", 1);
        noBook("41 1;", 2, 0);
        noBook("400 1;", 2, 0);
    }

    private static void bookWiresTo12() {
        book("1 0;", 1);
        book("1 12;", 1);
        noBook("1 13;", 2, 2);
        // more than there are wires may be told; then nothing fits
        Check.due("none fits", book("1 12;", 1).fits(0), 0);
    }

    // "Numbers: digits, as many as stand there"

    private static void numbersAsManyDigits() {
        country("fields 0000000000000000000000000000000002;wire 0001 0 007;", 1);
        noCountry("fields 18;", 2, 7);
        noCountry("fields 4294967298;", 2, 7);
        noCountry("fields 18446744073709551618;", 2, 7);
        noCountry("fields 2;wire 01 5;", 2, 17);
        noCountry("fields 2;wire 0 4294967297 5;", 2, 16);
        noCountry("fields 2;wire 0 1 2147483648;", 2, 18);
        noCountry("fields 1 8;", 1, 9);
        noLaw("1/", 1, 2);
        noLaw("1:", 1, 1);
        toll("0+9", 9);
        noBook("1" + "0".repeat(50) + " 1;", 2, 0);
        work("move 0 " + "0".repeat(130) + "20;", 1);
        noWork("cut 4294967296;", 2, 4);
    }

    // "WORDS: small letters, as many as stand there"

    private static void wordsAsManyLetters() {
        noCountry("fieldsfields 2;", 1, 0);
        noCountry("fieldz 2;", 1, 0);
        noCountry("fiel ds 2;", 1, 0);
        noCountry("Fields 2;", 1, 0);
        noCountry("fieldS 2;", 1, 0);
        noCountry("gields 2;", 1, 0);
        noCountry("nliers 2;", 1, 0);
        noLaw("road", 1, 0);
        noLaw("host[1,2]", 1, 0);
        noWork("four;", 1, 0);
        noCountry("things 0 1;", 1, 0);
        noCountry("a;", 1, 0);
        noCountry("z;", 1, 0);
        country("fields2;pliers3;", 0);
        noWork("hourhour;", 1, 0);
        noWork("cut0;cutt 0;", 1, 5);
        noLaw("leastmost[1,2]", 1, 0);
        noLaw("loada", 1, 0);
        noLaw("loadz", 1, 0);
        noLaw("load{", 1, 4);
        noLaw("load`", 1, 4);
        toll("2*load/load", 2);
    }

    // "blanks (32) may stand ahead of all these, and at the end"

    private static void blanks() {
        country("  fields   2  ;  wire  0  1  5  ;  ", 1);
        toll("  least  [  load  ,  (  7  )  ]  +  1  ", 8);
        work("  again  2  [  hour  ;  ]  ;  ", 2);
        book("  1  1  ;  ", 1);
        int[] others = {0, 9, 10, 11, 12, 13, 31, 33, 160, 255};
        for (int other : others) {
            String one = String.valueOf((char) other);
            noCountry("fields" + one + "2;", 1, 6);
            noCountry("fields 2;" + one, 1, 9);
            noCountry(one, 1, 0);
            noLaw("1" + one, 1, 1);
            noWork("hour;" + one, 1, 5);
            noBook("1" + one + "1;", 1, 1);
        }
    }

    // "FAULTS, the first from the left"

    private static void faultIsTheFirst() {
        noCountry("fields 9;x", 2, 7);
        noCountry("x;fields 9;", 1, 0);
        noCountry("fields 2;wire 2 2 100", 2, 14);
        noLaw("1000 + (((((((1", 2, 0);
        noLaw("(((((((1000", 3, 6);
        noWork("cut 1;hours;", 2, 4);
        noWork("hours;cut 1;", 1, 0);
        noBook("41 13;", 2, 0);
        noBook("40 13;41", 2, 3);
    }

    // "1 what can't stand there (at the length, if the text ends too early)"

    private static void faultAtTheLength() {
        noCountry("fields", 1, 6);
        noCountry("fields 2", 1, 8);
        noCountry("fields 2   ", 1, 11);
        noCountry("fields 2;wire 0", 1, 15);
        noCountry("fields 2;wire 0 1", 1, 17);
        noCountry("fields 2;wire 0 1 5", 1, 19);
        noCountry("fields 2;thing 0", 1, 16);
        noCountry("fields 2;person 0 ", 1, 18);
        noCountry("pliers", 1, 6);
        noLaw("", 1, 0);
        noLaw("1 +", 1, 3);
        noLaw("(1", 1, 2);
        noLaw("least", 1, 5);
        noLaw("least[1", 1, 7);
        noLaw("least[1,", 1, 8);
        noLaw("most[1,2  ", 1, 10);
        noWork("hour", 1, 4);
        noWork("lift 0", 1, 6);
        noWork("move 0 1", 1, 8);
        noWork("again", 1, 5);
        noWork("again 2", 1, 7);
        noWork("again 2[", 1, 8);
        noWork("again 2[hour;", 1, 13);
        noWork("again 2[hour;]", 1, 14);
        noBook("1", 1, 1);
        noBook("1 ", 1, 2);
        noBook("1 1", 1, 3);
        // the length is the n that was told, not what lies on the tape behind it
        DeadWires w = new DeadWires();
        Check.feed(w, "fields 2;");
        Check.due("the first 8 bytes", w.country(8), -9);
        Check.due("at 8", w.fault(), 8);
        Check.feed(w, "fields 20;");
        Check.due("a number ends there, too", w.country(8), -9);
        Check.due("at 8", w.fault(), 8);
        Check.feed(w, "loads");
        Check.due("and a word", w.law(4), 1);
    }

    private static void faultAtTheFirstByte() {
        noCountry("   fields   12;", 2, 12);
        noCountry("   fieldss 1;", 1, 3);
        noCountry("fields 2;  wire 0   00 1;", 2, 20);
        noLaw("  1234", 2, 2);
        noLaw("1 +  what", 1, 5);
        noWork("  again  99 [", 2, 9);
        noBook("  1  99;", 2, 5);
    }

    // "3 .. a 7th of ( least most again that is open at one time"

    private static void sixOpenAtOneTime() {
        toll("((((((8))))))", 8);
        noLaw("(((((((8)))))))", 3, 6);
        toll("least[least[least[least[least[least[8,9],9],9],9],9],9]", 8);
        noLaw("least[least[least[least[least[least[least[8", 3, 36);
        toll("most[most[most[most[most[most[8,1],1],1],1],1],1]", 8);
        noLaw("most[most[most[most[most[most[most[8", 3, 30);
        toll("((least[1,most[(2),(3)]]))", 1);
        noLaw("((least[1,most[((2)),((least", 3, 23);
        noLaw("((least[1,most[((2", 1, 18);
        // one that is closed is open no more
        toll("((((((1))))))+((((((2))))))*((((((3))))))", 7);
        toll("most[(((((1))))),(((((2)))))]", 2);
        noLaw("most[(((((1))))),((((((2))))))]", 3, 22);
        work("again 1[".repeat(6) + "hour;" + "];".repeat(6), 1);
        noWork("again 1[".repeat(7) + "hour;", 3, 48);
        work("again 1[".repeat(6) + "];".repeat(5) + "hour;again 1[hour;];];", 2);
        work(("again 1[".repeat(6) + "];".repeat(6)) + "again 1[".repeat(6) + "hour;" + "];".repeat(6), 1);
        noWork("again 1[".repeat(6) + "];" + "again 1[ again", 3, 59);
    }

    // "of one the least"

    private static void ofOneTheLeast() {
        noCountry("pliers 1;".repeat(60) + "wires", 1, 540);
        noCountry("pliers 1;".repeat(60) + "1", 1, 540);
        noCountry("pliers 1;".repeat(60) + ";", 1, 540);
        noBook("40 12;0 0;1 0;2 0;3 0;4 0;5 0;6 0;6 0;", 2, 34);
        noBook("40 12;0 0;1 0;2 0;3 0;4 0;5 0;6 0;40 0;", 2, 34);
        noBook("40 12;0 0;1 0;2 0;3 0;4 0;5 0;6 0;41 0;", 2, 34);
        noBook("40 12;0 0;1 0;2 0;3 0;4 0;5 0;6 0;hour;", 1, 34);
        noLaw("((((((1 (", 1, 8);
        noLaw("((((((1 least", 1, 8);
        noLaw("((((((again", 1, 6);
        noWork("again 1[".repeat(6) + "agains", 1, 48);
        noWork("again 1[".repeat(6) + "least", 1, 48);
    }
}
