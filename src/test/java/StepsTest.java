/** Part 2 of the document, and promises 8 to 16: what steps do, and what is so by now. */
public final class StepsTest {
    private static final String LAND = "fields 4;wire 0 1 5;wire 1 2 3;wire 2 3 99;"
            + "thing 0 8;thing 0 5;thing 1 30;person 0 13;person 2 40;";

    public static void main(String[] args) {
        lifting();
        crossing();
        tiredBySixty();
        moving();
        cutting();
        hours();
        loops();
        begunSteps();
        undoing();
        told();
        fields();
        wires();
        thingsAndPersons();
        tolls();
        woulds();
        cans();
        Check.end();
    }

    private static void step(DeadWires w, String text, int done, int refused) {
        Check.due(text, Check.work(w, text), done);
        Check.due("refused by " + text, w.told(10), refused);
    }

    private static void lifting() {
        DeadWires w = Check.land(LAND);
        step(w, "lift 0 2;", 0, 1);
        step(w, "lift 0 0;lift 0 0;", 1, 1);
        step(w, "lift 0 1;", 1, 0);
        Check.due("load at S", w.person(0, 3), 13);
        step(w, "set 1 0;set 0 2;", 0, 2);
        step(w, "cross 0 0;set 0 0;", 2, 0);
        Check.due("set down where he is", w.thing(0, 1), 1);
        Check.due("by none", w.thing(0, 2), -1);
        step(w, "lift 0 2;", 0, 1);
        step(w, "lift 0 0;", 1, 0);
        DeadWires weak = Check.land("fields 1;thing 0 5;thing 0 6;person 0 10;person 0 11;");
        step(weak, "lift 0 0;lift 0 1;", 1, 1);
        step(weak, "lift 1 0;lift 1 1;", 1, 1);
    }

    private static void crossing() {
        DeadWires w = Check.land(LAND);
        step(w, "cross 0 1;", 0, 1);
        step(w, "lift 0 0;cross 0 0;", 2, 0);
        Check.due("at the other end", w.person(0, 1), 1);
        Check.due("with all he carries", w.thing(0, 1), 1);
        Check.due("tired by 1 + 8 / 4", w.person(0, 2), 3);
        step(w, "cross 0 0;", 1, 0);
        Check.due("and back", w.person(0, 1), 0);
        Check.due("crossings", w.told(11), 2);
        step(w, "again 4[hour;];cross 0 0;", 5, 0);
        step(w, "hour;cross 0 0;", 1, 1);
        Check.due("live at its hour", w.told(5), 3);
        step(w, "cut 0;cross 0 0;", 2, 0);
    }

    private static void tiredBySixty() {
        DeadWires w = Check.land(LAND);
        Check.law(w, "20");
        step(w, "again 4[cross 0 0;];", 3, 1);
        Check.due("tired", w.person(0, 2), 60);
        Check.due("can't", w.can(0, 0) ? 1 : 0, 0);
        step(w, "again 3[hour;];", 3, 0);
        Check.due("rested", w.person(0, 2), 45);
        step(w, "cross 0 0;", 0, 1);
        step(w, "hour;cross 0 0;", 2, 0);
        Check.due("just sixty", w.person(0, 2), 60);
        // the toll is the one ahead of the crossing: by tired as it was
        DeadWires x = Check.land(LAND);
        Check.law(x, "tired + 3");
        step(x, "cross 0 0;cross 0 0;cross 0 0;", 3, 0);
        Check.due("3, 6 and 12", x.person(0, 2), 21);
        Check.law(x, "wires * 4");
        step(x, "cross 0 0;", 1, 0);
        Check.due("two wires at field 1", x.person(0, 2), 29);
    }

    private static void moving() {
        DeadWires w = Check.land(LAND);
        step(w, "move 1 20;", 1, 0);
        Check.due("H", w.wire(1, 2), 23);
        Check.due("H as told", w.wire(1, 3), 3);
        step(w, "again 9[move 1 20;];", 9, 0);
        Check.due("199 at most", w.wire(1, 2), 199);
        step(w, "move 1 1;", 0, 1);
        step(w, "cut 0;move 0 1;", 1, 1);
        step(w, "move 2 20;again 5[move 2 20;];move 2 1;", 5, 2);
        Check.due("both", w.moved(), 6);
        DeadWires x = Check.land(LAND);
        step(x, "again 3[hour;];move 1 1;move 0 1;", 4, 1);
        Check.due("H of a live one", x.wire(1, 2), 3);
    }

    private static void cutting() {
        DeadWires w = Check.land(LAND + "pliers 1;");
        step(w, "again 9[hour;];cut 1;", 10, 0);
        Check.due("cut ones are not live", w.told(5), 1);
        Check.due("cut", w.told(6), 2);
        Check.due("pliers", w.told(7), 0);
        step(w, "cut 1;cut 0;", 0, 2);
        DeadWires x = Check.land(LAND);
        step(x, "cut 1;cut 1;", 1, 1);
        Check.due("a cut one takes no pliers", x.told(7), 1);
        step(Check.land(LAND + "pliers 0;"), "cut 0;", 0, 1);
    }

    private static void hours() {
        DeadWires w = Check.land(LAND);
        Check.law(w, "12");
        step(w, "cross 0 0;hour;", 2, 0);
        Check.due("5 less", w.person(0, 2), 7);
        step(w, "hour;hour;", 2, 0);
        Check.due("0 at least", w.person(0, 2), 0);
        for (int i = 0; i < 10; i++) {
            step(w, "again 39[hour;];", 39, 0);
        }
        Check.due("hour", w.told(4), 393);
        step(w, "again 9[hour;];", 7, 2);
        Check.due("400 is the last", w.told(4), 400);
        Check.due("all live", w.told(5), 7);
        Check.due("no way any more", w.grant(0, 3), -1);
        Check.due("for wires that were 3", w.arrives(0, 1), -1);
        Check.due("ahead of 400 and more", w.ahead(99, 0), 7);
    }

    private static void loops() {
        DeadWires w = Check.land(LAND);
        step(w, "again 0[hour;];", 0, 0);
        step(w, "again 3[hour;again 2[hour;];];", 9, 0);
        step(w, "again 40[];again 2[cut 0;];", 1, 1);
        Check.due("hour", w.told(4), 9);
    }

    private static void begunSteps() {
        DeadWires w = Check.land(LAND);
        // one again and 40 times an again with 4 hours: the 200 are 1 + 39 * 5 + an again and 3 hours
        step(w, "again 40[again 4[hour;];];cut 0;", 159, 0);
        Check.due("what comes behind is left out", w.told(6), 0);
        step(w, "again 40[set 0 0;set 0 1;set 0 2;set 1 0;hour;];", 39, 160);
        Check.due("hours", w.told(4), 198);
        DeadWires x = Check.land(LAND);
        step(x, "again 39[again 0[];again 0[];again 0[];again 0[];hour;];hour;hour;hour;hour;hour;", 43, 0);
        step(x, "again 40[again 40[again 40[again 40[again 40[again 40[];];];];];];", 0, 0);
    }

    private static void undoing() {
        DeadWires w = Check.land(LAND);
        Check.due("none", w.undo(), -1);
        step(w, "lift 0 0;cross 0 0;move 1 4;cut 0;hour;", 5, 0);
        step(w, "set 0 0;hour;cut 0;", 2, 1);
        Check.due("works", w.count(2), 2);
        Check.due("undo", w.undo(), 1);
        Check.due("refused behind undo", w.told(10), 0);
        Check.due("carried again", w.thing(0, 2), 0);
        Check.due("hour", w.told(4), 1);
        Check.due("undo", w.undo(), 0);
        Check.due("lies", w.field(0, 0), 3);
        Check.due("H", w.wire(1, 2), 3);
        Check.due("cut", w.told(6), 0);
        Check.due("pliers", w.told(7), 2);
        Check.due("crossings", w.told(11), 0);
        Check.due("tired", w.person(0, 2), 0);
        Check.due("where", w.person(0, 1), 0);
        Check.due("none", w.undo(), -1);
    }

    private static void told() {
        DeadWires w = Check.land(LAND);
        Check.book(w, "3 1;");
        step(w, "lift 0 1;cross 0 0;cross 0 0;hour;hour;hour;cut 2;cut 2;", 7, 1);
        int[] due = {4, 3, 3, 2, 3, 2, 4, 1, 2, 1, 1, 2};
        for (int i = 0; i < due.length; i++) {
            Check.due("told " + i, w.told(i), due[i]);
        }
        Check.wrong("told -1", () -> w.told(-1));
        Check.wrong("told 12", () -> w.told(12));
    }

    private static void fields() {
        DeadWires w = Check.land(LAND);
        Check.due("lie", w.field(0, 0), 3);
        Check.due("are", w.field(2, 1), 2);
        Check.due("wires", w.field(1, 2), 2);
        Check.due("wires at an end", w.field(3, 2), 1);
        Check.due("to cross to", w.field(1, 3), 5);
        step(w, "lift 0 0;again 3[hour;];", 4, 0);
        Check.due("none carried", w.field(0, 0), 2);
        Check.due("1 to 2 is live", w.field(1, 3), 1);
        step(w, "cut 1;", 1, 0);
        Check.due("cut is no hindrance", w.field(1, 3), 5);
        Check.due("tolls are not asked", w.field(0, 3), 2);
        Check.missing("field 4", () -> w.field(4, 0));
        Check.missing("field -1, also with a wrong what", () -> w.field(-1, 9));
        Check.wrong("what 4", () -> w.field(0, 4));
        Check.wrong("what -1", () -> w.field(0, -1));
    }

    private static void wires() {
        DeadWires w = Check.land(LAND);
        step(w, "again 3[hour;];move 2 20;cut 0;", 5, 0);
        int[][] due = {{0, 1, 5, 5, 0, 1, 99}, {1, 2, 3, 3, 1, 0, 0}, {2, 3, 119, 99, 0, 0, 99}};
        for (int i = 0; i < 3; i++) {
            for (int what = 0; what < 7; what++) {
                Check.due("wire " + i + " " + what, w.wire(i, what), due[i][what]);
            }
        }
        step(w, "again 20[hour;];", 20, 0);
        Check.due("96 left", w.wire(2, 6), 96);
        Check.missing("wire 3", () -> w.wire(3, 0));
        Check.missing("wire -1", () -> w.wire(-1, 7));
        Check.wrong("what 7", () -> w.wire(0, 7));
        Check.wrong("what -1", () -> w.wire(0, -1));
    }

    private static void thingsAndPersons() {
        DeadWires w = Check.land(LAND);
        step(w, "lift 0 0;lift 0 1;cross 0 0;", 3, 0);
        int[][] things = {{8, 1, 0}, {5, 1, 0}, {30, 1, -1}};
        int[][] persons = {{13, 1, 4, 13, 3}, {40, 2, 0, 0, 0}};
        for (int i = 0; i < 3; i++) {
            for (int what = 0; what < 3; what++) {
                Check.due("thing " + i + " " + what, w.thing(i, what), things[i][what]);
            }
        }
        for (int i = 0; i < 2; i++) {
            for (int what = 0; what < 5; what++) {
                Check.due("person " + i + " " + what, w.person(i, what), persons[i][what]);
            }
        }
        Check.missing("thing 3", () -> w.thing(3, 0));
        Check.missing("thing -1", () -> w.thing(-1, 3));
        Check.wrong("thing's what", () -> w.thing(0, 3));
        Check.missing("person 2", () -> w.person(2, 0));
        Check.missing("person -1", () -> w.person(-1, 5));
        Check.wrong("person's what", () -> w.person(0, 5));
        Check.due("misses", w.status(0), 4);
        Check.due("wrong ones", w.status(1), 2);
    }

    private static void tolls() {
        DeadWires w = Check.land(LAND);
        Check.due("1", w.toll(0, 0), 1);
        step(w, "lift 0 0;", 1, 0);
        Check.due("by load", w.toll(0, 2), 3);
        Check.law(w, "left + person * 7 - hour");
        Check.due("left, far from it", w.toll(0, 1), 3);
        Check.due("person 1", w.toll(1, 0), 12);
        Check.due("40 at most", w.toll(0, 2), 40);
        step(w, "hour;", 1, 0);
        Check.due("an hour later", w.toll(0, 0), 3);
        step(w, "again 4[hour;];", 4, 0);
        Check.due("0 at least, live", w.toll(0, 0), 0);
        Check.missing("person 2", () -> w.toll(2, 0));
        Check.missing("wire 3", () -> w.toll(0, 3));
        Check.missing("wire -1", () -> w.toll(0, -1));
    }

    private static void woulds() {
        DeadWires w = new DeadWires();
        Check.law(w, "load/45+strong/10+tired/15+left/33+hour/100+wires/3+person");
        Check.due("at the highest", w.would(180, 40, 60, 99, 400, 12, 4), 4 + 4 + 4 + 3 + 4 + 4 + 4);
        Check.due("at the lowest", w.would(0, 1, 0, 0, 0, 0, 0), 0);
        int[] high = {180, 40, 60, 99, 400, 12, 4};
        int[] low = {0, 1, 0, 0, 0, 0, 0};
        for (int i = 0; i < 7; i++) {
            int[] above = high.clone();
            above[i]++;
            int[] below = low.clone();
            below[i]--;
            Check.wrong("above " + i, () -> would(w, above));
            Check.wrong("below " + i, () -> would(w, below));
        }
        Check.due("refused", w.status(1), 14);
    }

    private static int would(DeadWires w, int[] v) {
        return w.would(v[0], v[1], v[2], v[3], v[4], v[5], v[6]);
    }

    private static void cans() {
        DeadWires w = Check.land(LAND);
        Check.due("at an end", w.can(0, 0) ? 1 : 0, 1);
        Check.due("not at an end", w.can(0, 1) ? 1 : 0, 0);
        Check.law(w, "40");
        step(w, "cross 1 1;", 1, 0);
        Check.due("too tired", w.can(1, 1) ? 1 : 0, 0);
        step(w, "again 4[hour;];", 4, 0);
        Check.due("rested, but it is live", w.can(1, 1) ? 1 : 0, 0);
        Check.due("another way", w.can(1, 0) ? 1 : 0, 1);
        Check.missing("person", () -> w.can(2, 0) ? 1 : 0);
        Check.missing("wire", () -> w.can(0, 3) ? 1 : 0);
    }
}
