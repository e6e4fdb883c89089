/** Promises 2 to 7: the tape, the texts and their faults. */
public final class TextsTest {
    private static final String LAND = "fields 3;wire 0 1 5;wire 1 2 9;thing 0 7;thing 1 2;person 0 10;person 2 4;";

    public static void main(String[] args) {
        feeding();
        lengths();
        countries();
        countryFaults();
        countryCounts();
        countryBeginsAnew();
        laws();
        lawFaults();
        lawKeeps();
        works();
        workFaults();
        books();
        Check.end();
    }

    private static void feeding() {
        DeadWires w = new DeadWires();
        for (int i = 1; i <= 30; i++) {
            Check.due("feed " + i, w.feed(0, 0, 0, 0, 0), 20 * i);
        }
        Check.due("feed beyond 600", w.feed(1, 1, 1, 1, 1), -1);
        Check.due("tape stays", w.count(1), 600);
        Check.due("600 zeros", w.country(600), -9);
        Check.due("at the first", w.fault(), 0);
        Check.due("tape is empty", w.count(1), 0);
        Check.due("fed again", w.feed(0x66696c64, 0, 0, 0, 0), 20);
        Check.due("highest byte first", country("fields 4;fields 4;"), 0);
    }

    private static int country(String text) {
        return Check.country(new DeadWires(), text);
    }

    private static void lengths() {
        DeadWires w = new DeadWires();
        Check.wrong("country 1 of 0", () -> w.country(1));
        Check.wrong("country below 0", () -> w.country(-1));
        for (int i = 0; i < 10; i++) {
            w.feed(0x20202020, 0x20202020, 0x20202020, 0x20202020, 0x20202020);
        }
        Check.wrong("country 201 of 200", () -> w.country(201));
        Check.wrong("law 151", () -> w.law(151));
        Check.wrong("work 151", () -> w.work(151));
        Check.wrong("book 61", () -> w.book(61));
        Check.wrong("law below 0", () -> w.law(-1));
        Check.wrong("work below 0", () -> w.work(Integer.MIN_VALUE));
        Check.wrong("book far", () -> w.book(Integer.MAX_VALUE));
        Check.due("the tape stays", w.count(1), 200);
        Check.due("refused", w.status(1), 9);
        Check.due("law of blanks ends too early", w.law(150), -9);
        Check.due("at its length", w.fault(), 150);
        Check.wrong("nothing is left", () -> w.law(1));
        Check.due("a refused length leaves the fault", w.fault(), 150);
        Check.due("work without bytes", w.work(0), 0);
        Check.due("no fault", w.fault(), -1);
    }

    private static void countries() {
        DeadWires w = new DeadWires();
        Check.due("country", Check.country(w, "fields 2; wire 0 1 99 ;  fields3;wire 4 0 0;thing4 30;person 4 40;pliers9;pliers 003;  "), 2);
        Check.due("no fault", w.fault(), -1);
        int[] told = {5, 2, 1, 1, 0, 2, 0, 3, 0, 0, 0, 0};
        for (int i = 0; i < told.length; i++) {
            Check.due("told " + i, w.told(i), told[i]);
        }
        Check.due("A", w.wire(1, 0), 4);
        Check.due("B", w.wire(1, 1), 0);
        Check.due("pliers without", Check.land("fields 1;").told(7), 2);
        Check.due("rest of the tape is gone", w.count(1), 0);
    }

    private static void fault(String text, int kind, int place) {
        DeadWires w = Check.land(LAND);
        Check.due("country '" + text + "'", Check.country(w, text), kind - 10);
        Check.due("place in '" + text + "'", w.fault(), place);
        Check.due("all stays", w.told(0), 3);
        Check.due("tape is empty", w.count(1), 0);
    }

    private static void countryFaults() {
        fault("x", 1, 0);
        fault("fields", 1, 6);
        fault("fields  ", 1, 8);
        fault("fields 2", 1, 8);
        fault("  field 2;", 1, 2);
        fault("fieldss 2;", 1, 0);
        fault("Fields 2;", 1, 0);
        fault("fields\t2;", 1, 6);
        fault("fields two;", 1, 7);
        fault("fields -1;", 1, 7);
        fault("fields 2;;", 1, 9);
        fault("fields 2 wire 0 1 1;", 1, 9);
        fault("fields 0;", 2, 7);
        fault("fields 9;", 2, 7);
        fault("fields 4294967297;", 2, 7);
        fault("fields 99999999999999999999;", 2, 7);
        fault("fields 5;fields 4;", 2, 16);
        fault("fields 8;fields 1;", 2, 16);
        fault("wire 0 1 1;", 2, 5);
        fault("fields 2;wire 2 1 1;", 2, 14);
        fault("fields 2;wire 1 2 1;", 2, 16);
        fault("fields 2;wire 1 1 1;", 2, 16);
        fault("fields 2;wire 1 0 100;", 2, 18);
        fault("fields 2;wire 1 0 1;wire 1 0 1;", 2, 27);
        fault("fields 2;wire 1 0 1;wire 0 1 1;", 2, 27);
        fault("fields 2;wire 1 0;", 1, 17);
        fault("fields 2;thing 2 1;", 2, 15);
        fault("fields 2;thing 1 0;", 2, 17);
        fault("fields 2;thing 1 31;", 2, 17);
        fault("fields 2;person 2 1;", 2, 16);
        fault("fields 2;person 1 0;", 2, 18);
        fault("fields 2;person 1 41;", 2, 18);
        fault("pliers 10;", 2, 7);
        fault("pliers ;", 1, 7);
    }

    private static void countryCounts() {
        Check.due("60 clauses", country("pliers 1;".repeat(60)), 0);
        fault("pliers 1;".repeat(61), 3, 540);
        fault("pliers 1;".repeat(60) + "fields 0;", 3, 540);
        fault("pliers 1;".repeat(60) + " nothing", 1, 541);
        fault("pliers 1;".repeat(60) + "7", 1, 540);
        Check.due("60 and blanks", country("pliers 1;".repeat(60) + "   "), 0);
        Check.due("600 bytes", country("pliers  1;".repeat(60)), 0);
        String wires = "fields 6;wire 0 1 1;wire 0 2 1;wire 0 3 1;wire 0 4 1;wire 0 5 1;wire 1 2 1;wire 1 3 1;"
                + "wire 1 4 1;wire 1 5 1;wire 2 3 1;wire 2 4 1;wire 2 5 1;";
        Check.due("12 wires", country(wires), 12);
        fault(wires + "wire 3 4 1;", 3, wires.length());
        fault(wires + " wire", 3, wires.length() + 1);
        String things = "fields 1;" + "thing 0 1;".repeat(6);
        Check.due("6 things", country(things), 0);
        fault(things + "thing 0 1;", 3, things.length());
        String persons = "fields 1;" + "person 0 1;".repeat(5);
        Check.due("5 persons", country(persons), 0);
        fault(persons + "person 0 1;", 3, persons.length());
    }

    private static void countryBeginsAnew() {
        DeadWires w = Check.land(LAND);
        Check.law(w, "7");
        Check.book(w, "1 1;");
        Check.work(w, "lift 1 0;hour;cross 0 0;cut 0;");
        w.image();
        Check.due("refused", w.told(10), 1);
        Check.wrong("a refusal", () -> w.told(12));
        Check.due("again", Check.country(w, LAND), 2);
        int[] told = {3, 2, 2, 2, 0, 0, 0, 2, 0, 0, 0, 0};
        for (int i = 0; i < told.length; i++) {
            Check.due("told anew " + i, w.told(i), told[i]);
        }
        Check.due("no law", w.toll(0, 0), 1);
        Check.due("no image", w.restore(), -1);
        Check.due("nothing to undo", w.undo(), -1);
        Check.due("refusals are kept", w.status(1), 1);
        Check.work(w, "hour;lift 1 0;");
        Check.due("a faulty country", Check.country(w, "no"), -9);
        Check.due("leaves the hour", w.told(4), 1);
        Check.due("and what was refused", w.told(10), 1);
        Check.due("and the works", w.count(2), 1);
    }

    private static void law(String text, int due) {
        DeadWires w = new DeadWires();
        Check.due("law '" + text + "'", Check.law(w, text), 1);
        Check.due("no fault in '" + text + "'", w.fault(), -1);
        Check.due("toll by '" + text + "'", w.would(20, 30, 5, 17, 100, 3, 2), due);
    }

    private static void laws() {
        law("0", 0);
        law("999", 40);
        law("load", 20);
        law("strong", 30);
        law("tired", 5);
        law("left", 17);
        law("hour / 10", 10);
        law("wires", 3);
        law("person", 2);
        law("1 + 2 * 3", 7);
        law("( 1 + 2 ) * 3", 9);
        law("20 - 5 - 4", 11);
        law("40 / 5 / 4", 2);
        law("7 % 4 * 2", 6);
        law("0 - 7 % 4 + 10", 7);
        law("(0 - 7) % 4 + 10", 7);
        law("(0 - 7) / 2 + 10", 7);
        law("7 % (0 - 4)", 3);
        law("9 / 0 + 5", 5);
        law("9 % (load - 20) + 6", 6);
        law("3 - 9", 0);
        law("least [ load , 7 ]", 7);
        law("most[load,7]", 20);
        law("least[0-5,3]+9", 4);
        law("most [ 0 - 5 , 0 - 8 ] + 9", 4);
        law("least[most[1,2],most[3,4]]", 2);
        law("((((((6))))))", 6);
        law("(((least[most[(8),1],9])))", 8);
        law("((((((1))))))+((((((2))))))", 3);
        law("least[1,(((((2)))))]", 1);
        law("1+".repeat(20) + "0", 20);
        law("9-" + "0+".repeat(73) + "5", 14);
        law("1+1*(1+1*(1+1*(1+1*(1+1*(1+1*(1+1*3)))))" + ")", 10);
        law(" ".repeat(149) + "8", 8);
        law("  007  ", 7);
        law("load+strong/3-tired", 25);
        // 64 * 64 * 64 * 64 * 256 and 5 more wraps to 5
        law("64*64*64*64*256+5", 5);
        // 999 * 999 * 999 * 5 is 4,985,014,995, by 32 bits 690,047,699
        law("999*999*999*5%100-70", 29);
        // 2 to the 31 is the least number of all; divided by -1 it stays what it is
        law("(512*512*512*16)/(0-1)", 0);
        law("(512*512*512*16)%(0-1)+3", 3);
        law("512*512*512*16-1", 40);
    }

    private static void lawFault(String text, int kind, int place) {
        DeadWires w = new DeadWires();
        Check.due("first law", Check.law(w, "load"), 1);
        Check.due("law '" + text + "'", Check.law(w, text), kind - 10);
        Check.due("place in '" + text + "'", w.fault(), place);
        Check.due("the law stays", w.would(9, 1, 0, 0, 0, 0, 0), 9);
    }

    private static void lawFaults() {
        lawFault("", 1, 0);
        lawFault("   ", 1, 3);
        lawFault("load +", 1, 6);
        lawFault("load + ", 1, 7);
        lawFault("+ load", 1, 0);
        lawFault("-1", 1, 0);
        lawFault("load load", 1, 5);
        lawFault("1 2", 1, 2);
        lawFault("1;", 1, 1);
        lawFault("1000", 2, 0);
        lawFault("1 + 1000 +", 2, 4);
        lawFault("loads", 1, 0);
        lawFault("(1", 1, 2);
        lawFault("(1]", 1, 2);
        lawFault("1)", 1, 1);
        lawFault("()", 1, 1);
        lawFault("least", 1, 5);
        lawFault("least(1,2)", 1, 5);
        lawFault("least[1 2]", 1, 8);
        lawFault("least[1]", 1, 7);
        lawFault("most[1,2)", 1, 8);
        lawFault("most[,2]", 1, 5);
        lawFault("(((((( (1", 3, 7);
        lawFault("((((((least", 3, 6);
        lawFault("((((((most[1,2]))))))", 3, 6);
        lawFault("least[least[least[least[least[least[ most", 3, 37);
        lawFault("((((((1)))))) + (((((((", 3, 22);
        lawFault("load\n", 1, 4);
        lawFault("least[1,((((((2))))))]", 3, 13);
        lawFault("most[((((((1)))))),2]", 3, 10);
    }

    private static void lawKeeps() {
        DeadWires w = Check.land(LAND);
        Check.book(w, "1 1;2 2;");
        Check.work(w, "hour;lift 1 0;");
        w.image();
        Check.due("law", Check.law(w, "9"), 1);
        Check.due("the book stays", w.told(9), 2);
        Check.due("the hour", w.told(4), 1);
        Check.due("the refused", w.told(10), 1);
        Check.due("the works", w.count(2), 1);
        Check.due("the images", w.count(0), 1);
        w.undo();
        Check.due("undo leaves the law", w.toll(0, 0), 9);
        w.restore();
        Check.due("restore leaves the law", w.toll(0, 0), 9);
    }

    private static void works() {
        DeadWires w = Check.land(LAND);
        Check.due("work", Check.work(w, " lift 0 0 ; cross 0 0;again 2 [ hour ; ] ; "), 4);
        Check.due("hour", w.told(4), 2);
        Check.due("at", w.person(0, 1), 1);
        for (int i = 0; i < 15; i++) {
            Check.due("work without steps", w.work(0), 0);
        }
        Check.due("faulty text", Check.feed(w, "cut"), 3);
        Check.due("16 works", w.work(3), -20);
        Check.due("no fault", w.fault(), -1);
        Check.due("tape is empty", w.count(1), 0);
        Check.wrong("a wrong length comes ahead of that", () -> w.work(1));
        Check.due("one undone", w.undo(), 15);
        Check.due("faulty again", Check.work(w, "cut"), -9);
        Check.due("at the length", w.fault(), 3);
        Check.due("and there is room", Check.work(w, "hour;"), 1);
        Check.feed(w, "hour;");
        Check.due("none any more", w.work(5), -20);
        Check.due("the fault is gone", w.fault(), -1);
    }

    private static void workFault(String text, int kind, int place) {
        DeadWires w = Check.land(LAND);
        Check.work(w, "lift 1 0;");
        Check.due("work '" + text + "'", Check.work(w, text), kind - 10);
        Check.due("place in '" + text + "'", w.fault(), place);
        Check.due("nothing is done", w.told(4), 0);
        Check.due("the refused stay", w.told(10), 1);
        Check.due("no work more", w.count(2), 1);
    }

    private static void workFaults() {
        workFault("hour", 1, 4);
        workFault("hour;hour  ", 1, 11);
        workFault("hour;;", 1, 5);
        workFault("hour;]", 1, 5);
        workFault("hour;9", 1, 5);
        workFault("hours;", 1, 0);
        workFault("hour;lift 0;", 1, 11);
        workFault("hour;lift 2 0;", 2, 10);
        workFault("hour;lift 0 2;", 2, 12);
        workFault("set 2 0;", 2, 4);
        workFault("set 0 2;", 2, 6);
        workFault("cross 2 0;", 2, 6);
        workFault("cross 0 2;", 2, 8);
        workFault("move 2 1;", 2, 5);
        workFault("move 0 0;", 2, 7);
        workFault("move 0 21;", 2, 7);
        workFault("cut 2;", 2, 4);
        workFault("cut 0 0;", 1, 6);
        workFault("again 41 [];", 2, 6);
        workFault("again 1 hour;", 1, 8);
        workFault("again 1 [hour];", 1, 13);
        workFault("again 1 [hour;;", 1, 14);
        workFault("again 1 [hour;", 1, 14);
        workFault("again 1 [hour;]", 1, 15);
        workFault("again [];", 1, 6);
        workFault("hour;again 1[again 1[again 1[again 1[again 1[again 1[ again 9", 3, 54);
        DeadWires w = Check.land(LAND);
        Check.due("150 bytes", Check.work(w, "cut 0;".repeat(25)), 1);
        Check.due("six deep", Check.work(w, "again 1[".repeat(6) + "hour;" + "];".repeat(6)), 1);
        Check.due("six deep, twice", Check.work(w, ("again 1[".repeat(6) + "];".repeat(6)).concat("again 1[hour;];")), 1);
    }

    private static void book(String text, int due, int place) {
        DeadWires w = Check.land(LAND);
        Check.due("first book", Check.book(w, "0 0;40 12;"), 2);
        Check.due("book '" + text + "'", Check.book(w, text), due);
        Check.due("place in '" + text + "'", w.fault(), place);
        Check.due("lines", w.told(9), due < 0 ? 2 : due);
    }

    private static void books() {
        String eight = "0 0;1 0;2 0;3 0;4 0;5 0;6 0;7 0;";
        book("", 0, -1);
        book("  ", 0, -1);
        book(" 40 12 ; 0 0;", 2, -1);
        book(eight, 8, -1);
        book(eight + "8 0;", -7, 32);
        book(eight + " 8", -7, 33);
        book(eight + "40 0;", -7, 32);
        book(eight + " ".repeat(28), 8, -1);
        book("10 10 ;" + " ".repeat(50) + "9 9", -9, 60);
        book(eight + "7 0;", -8, 32);
        book(eight + "41 0;", -8, 32);
        book(eight + "x", -9, 32);
        book("41 0;", -8, 0);
        book("1 13;", -8, 2);
        book("1 1;2 2;1 1;", -8, 8);
        book("1 1;01 1;", -8, 4);
        book("1", -9, 1);
        book("1;", -9, 1);
        book("1 1", -9, 3);
        book("1 1 1;", -9, 4);
        book("k 1;", -9, 0);
    }
}
