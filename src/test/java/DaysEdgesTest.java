/** The sentences of part 2, each with the last step that is done and the first that is refused. */
public final class DaysEdgesTest {
    private static final String LAND = "fields 4;wire 0 1 5;wire 1 2 3;wire 2 3 99;"
            + "thing 0 8;thing 0 5;thing 1 30;thing 0 1;person 0 13;person 2 40;person 0 8;";

    public static void main(String[] args) {
        atFirst();
        liveByItsHourOrLater();
        refusedChangesNothing();
        stepsInOrder();
        twoHundredAreBegun();
        againsAreBegunEachTime();
        refusedOnesAreBegun();
        liftOfWhatLiesThere();
        liftUpToStrong();
        setOfWhatHeCarries();
        crossNotLive();
        crossFromItsEnds();
        crossWithAllHeCarries();
        crossUpToSixty();
        crossByTollAhead();
        moveUpTo199();
        moveNotAt199();
        moveNotLiveOrCut();
        cutOnce();
        cutWithPliers();
        cutIsNeverLive();
        hourUpTo400();
        hourRests();
        Check.end();
    }

    private static void step(DeadWires w, String text, int done, int refused) {
        Check.due(text, Check.work(w, text), done);
        Check.due("refused by " + text, w.told(10), refused);
    }

    private static void hours(DeadWires w, int many) {
        int left = many;
        while (left > 0) {
            int now = Math.min(left, 40);
            Check.work(w, "again " + now + "[hour;];");
            left -= now;
        }
    }

    // "It is HOUR 0 at first, nobody carries anything, is tired, no WIRE was moved or is CUT."

    private static void atFirst() {
        DeadWires w = Check.land(LAND);
        Check.due("hour", w.told(4), 0);
        Check.due("carried", w.told(8), 0);
        Check.due("crossings", w.told(11), 0);
        Check.due("cut", w.told(6), 0);
        Check.due("moved", w.moved(), 0);
        for (int i = 0; i < 3; i++) {
            Check.due("tired " + i, w.person(i, 2), 0);
            Check.due("load " + i, w.person(i, 3), 0);
            Check.due("carries " + i, w.person(i, 4), 0);
        }
        for (int i = 0; i < 4; i++) {
            Check.due("carried by none", w.thing(i, 2), -1);
        }
        // and so again behind another country, whatever was done
        Check.law(w, "20");
        step(w, "lift 0 0;cross 0 0;cross 1 1;cross 2 0;move 1 1;cut 2;hour;", 7, 0);
        Check.country(w, LAND);
        Check.due("hour anew", w.told(4), 0);
        for (int i = 0; i < 3; i++) {
            Check.due("tired anew", w.person(i, 2), 0);
        }
        Check.due("place anew", w.person(0, 1), 0);
        Check.due("thing anew", w.thing(0, 1), 0);
        Check.due("carried anew", w.thing(0, 2), -1);
        Check.due("H anew", w.wire(1, 2), 3);
        Check.due("cut anew", w.told(6), 0);
        Check.due("pliers anew", w.told(7), 2);
        Check.due("crossings anew", w.told(11), 0);
    }

    // "A WIRE is LIVE, if it is not CUT, and the HOUR is its H (by now) or later."

    private static void liveByItsHourOrLater() {
        DeadWires w = Check.land(LAND);
        hours(w, 2);
        Check.due("an hour ahead", w.wire(1, 4), 0);
        hours(w, 1);
        Check.due("at H", w.wire(1, 4), 1);
        hours(w, 1);
        Check.due("later", w.wire(1, 4), 1);
        DeadWires moved = Check.land(LAND);
        step(moved, "move 1 1;again 3[hour;];", 4, 0);
        Check.due("by now: not at H as told", moved.wire(1, 4), 0);
        hours(moved, 1);
        Check.due("but then", moved.wire(1, 4), 1);
        step(moved, "cut 1;", 1, 0);
        Check.due("not, if it is cut", moved.wire(1, 4), 0);
        Check.due("H 0 is live at hour 0", Check.land("fields 2;wire 0 1 0;").told(5), 1);
    }

    // "one that can't be done is REFUSED, and changes nothing"

    private static void refusedChangesNothing() {
        refusedLeaves("lift 1 2;");
        refusedLeaves("lift 0 3;");
        refusedLeaves("lift 0 0;");
        refusedLeaves("lift 1 0;");
        refusedLeaves("set 1 0;");
        refusedLeaves("set 0 1;");
        refusedLeaves("cross 0 2;");
        refusedLeaves("move 0 1;");
        refusedLeaves("cut 0;");
    }

    private static void refusedLeaves(String step) {
        DeadWires one = Seen.midway();
        DeadWires other = Seen.midway();
        one.work(0);
        other.work(0);
        step(one, step, 0, 1);
        Check.due("a work without steps", other.work(0), 0);
        // what is refused is all by which they may differ: it is gone with a work without steps
        one.work(0);
        other.work(0);
        Check.feed(one, "cross 0 1;set 0 0;  ");
        Check.feed(other, "cross 0 1;set 0 0;  ");
        Seen.alike(step, one, other, 0, 0);
    }

    private static void stepsInOrder() {
        step(Check.land(LAND), "cross 0 0;lift 0 0;", 1, 1);
        step(Check.land(LAND), "lift 0 0;cross 0 0;", 2, 0);
    }

    // "200 STEPS at most are begun by one WORK (an again, too, each time it is come to; REFUSED ones, too),
    // what would come behind is left out"

    private static void twoHundredAreBegun() {
        // 1 and 39 times 5: 196; four hours more are the 200th
        DeadWires w = Check.land(LAND);
        step(w, "again 39[hour;hour;hour;hour;hour;];hour;hour;hour;hour;", 199, 0);
        Check.due("all 200", w.told(4), 199);
        DeadWires more = Check.land(LAND);
        step(more, "again 39[hour;hour;hour;hour;hour;];hour;hour;hour;hour;hour;", 199, 0);
        Check.due("not the 201st", more.told(4), 199);
        DeadWires behind = Check.land(LAND);
        step(behind, "again 39[hour;hour;hour;hour;hour;];hour;hour;hour;cut 0;cut 1;", 199, 0);
        Check.due("the 200th was done, the 201st was not", behind.told(6), 1);
        DeadWires inside = Check.land(LAND);
        step(inside, "again 40[hour;hour;hour;hour;cut 1;];cut 0;", 161, 38);
        Check.due("within a loop", inside.told(4), 160);
        Check.due("behind it", inside.told(6), 2);
        // each work has 200 of its own
        step(inside, "again 40[hour;hour;hour;hour;cut 1;];", 160, 39);
        Check.due("the next one", inside.told(4), 320);
    }

    private static void againsAreBegunEachTime() {
        // 1 and 33 times 6, a hundred and ninety-nine; the 200th
        DeadWires w = Check.land(LAND);
        step(w, "again 33[again 0[];again 0[];again 0[];again 0[];again 0[];hour;];cut 0;cut 1;", 34, 0);
        Check.due("the 200th", w.told(6), 1);
        // 200 agains in all, the last of them a 200th that begins none
        DeadWires x = Check.land(LAND);
        step(x, "again 33[again 0[];again 0[];again 0[];again 0[];again 0[];hour;];again 1[cut 0;];", 33, 0);
        Check.due("nothing in it", x.told(6), 0);
        // an empty body is come to without a step being begun
        DeadWires y = Check.land(LAND);
        step(y, "again 40[];again 40[];again 40[];again 40[];again 40[];again 40[];hour;", 1, 0);
        // the deepest ones, each time they are come to: 1, 2, 4, 8, 16, 32 agains are 63, and 64 hours
        DeadWires z = Check.land(LAND);
        step(z, "again 2[".repeat(6) + "hour;" + "];".repeat(6) + "cut 0;", 65, 0);
    }

    private static void refusedOnesAreBegun() {
        DeadWires w = Check.land(LAND + "pliers 1;");
        step(w, "again 33[set 0 0;set 0 0;set 0 0;set 0 0;set 0 0;hour;];cut 0;cut 1;", 34, 165);
        DeadWires x = Check.land(LAND + "pliers 1;");
        step(x, "again 33[set 0 0;set 0 0;set 0 0;set 0 0;set 0 0;hour;];set 0 0;cut 1;", 33, 166);
        Check.due("left out", x.told(6), 0);
    }

    // "lift: P carries T (REFUSED, if T does not lie in the FIELD where P is, or his load would be above S)"

    private static void liftOfWhatLiesThere() {
        DeadWires w = Check.land(LAND);
        step(w, "lift 0 2;", 0, 1);
        step(w, "lift 0 1;", 1, 0);
        Check.due("he carries it", w.thing(1, 2), 0);
        step(w, "lift 0 1;", 0, 1);
        Check.due("carried by another: does not lie there", Check.work(w, "lift 2 1;"), 0);
        Check.due("still by him", w.thing(1, 2), 0);
        step(w, "set 0 1;lift 2 1;", 2, 0);
        Check.due("now by the other", w.thing(1, 2), 2);
    }

    private static void liftUpToStrong() {
        DeadWires w = Check.land(LAND);
        step(w, "lift 2 0;", 1, 0);
        Check.due("load is S", w.person(2, 3), 8);
        step(w, "lift 2 3;", 0, 1);
        Check.due("9 would be above 8", w.thing(3, 2), -1);
        step(w, "set 2 0;lift 0 0;lift 0 1;", 3, 0);
        Check.due("13 of 13", w.person(0, 3), 13);
        step(w, "lift 0 3;", 0, 1);
        DeadWires x = Check.land("fields 1;thing 0 30;person 0 29;person 0 30;");
        step(x, "lift 0 0;", 0, 1);
        step(x, "lift 1 0;", 1, 0);
    }

    // "set: T lies in the FIELD where P is (REFUSED, if P does not carry it)"

    private static void setOfWhatHeCarries() {
        DeadWires w = Check.land(LAND);
        step(w, "set 0 0;", 0, 1);
        step(w, "lift 0 0;set 2 0;", 1, 1);
        Check.due("still carried", w.thing(0, 2), 0);
        step(w, "cross 0 0;set 0 0;", 2, 0);
        Check.due("where he is", w.field(1, 0), 5);
        Check.due("not where it was", w.field(0, 0), 10);
        step(w, "set 0 0;", 0, 1);
    }

    // "cross: .. (REFUSED, if W is LIVE, P is not at one of its ends, or would be tired by more than 60)"

    private static void crossNotLive() {
        DeadWires w = Check.land(LAND);
        hours(w, 2);
        step(w, "cross 1 1;cross 1 1;", 2, 0);
        hours(w, 1);
        step(w, "cross 1 1;", 0, 1);
        Check.due("still there", w.person(1, 1), 2);
        step(w, "cut 1;cross 1 1;", 2, 0);
        Check.due("over the cut one", w.person(1, 1), 1);
    }

    private static void crossFromItsEnds() {
        DeadWires w = Check.land(LAND);
        step(w, "cross 0 1;cross 0 2;", 0, 2);
        step(w, "cross 0 0;", 1, 0);
        Check.due("from A to B", w.person(0, 1), 1);
        step(w, "cross 0 0;", 1, 0);
        Check.due("from B to A", w.person(0, 1), 0);
        Check.due("two crossings", w.told(11), 2);
        step(w, "cross 0 1;", 0, 1);
        Check.due("a refused one is none", w.told(11), 2);
    }

    private static void crossWithAllHeCarries() {
        DeadWires w = Check.land(LAND);
        step(w, "lift 0 0;lift 0 1;lift 2 3;cross 0 0;", 4, 0);
        Check.due("the first", w.thing(0, 1), 1);
        Check.due("the second", w.thing(1, 1), 1);
        Check.due("not what another carries", w.thing(3, 1), 0);
        Check.due("none lies there more", w.field(1, 0), 4);
    }

    private static void crossUpToSixty() {
        DeadWires w = Check.land(LAND);
        Check.law(w, "30");
        step(w, "cross 0 0;cross 0 0;", 2, 0);
        Check.due("60", w.person(0, 2), 60);
        Check.law(w, "1");
        step(w, "cross 0 0;", 0, 1);
        Check.due("61 would be more", w.can(0, 0) ? 1 : 0, 0);
        Check.law(w, "0");
        step(w, "cross 0 0;", 1, 0);
        Check.due("by 0 it is still 60", w.person(0, 2), 60);
        Check.law(w, "5");
        step(w, "hour;cross 0 0;", 2, 0);
        Check.law(w, "6");
        step(w, "hour;cross 0 0;", 1, 1);
        Check.due("55 and 6", w.person(0, 2), 55);
    }

    // "tired by TOLL more, as it is ahead"

    private static void crossByTollAhead() {
        DeadWires w = Check.land(LAND);
        Check.law(w, "10 * wires + tired");
        step(w, "cross 0 0;", 1, 0);
        Check.due("one wire at 0", w.person(0, 2), 10);
        step(w, "cross 0 0;", 1, 0);
        Check.due("two wires at 1, and 10", w.person(0, 2), 40);
    }

    // "move: H of W is N more, 199 at most (REFUSED, if W is CUT, LIVE, or H is 199)"

    private static void moveUpTo199() {
        DeadWires w = Check.land(LAND);
        step(w, "again 4[move 2 20;];move 2 19;", 5, 0);
        Check.due("198", w.wire(2, 2), 198);
        step(w, "move 2 20;", 1, 0);
        Check.due("199, not 218", w.wire(2, 2), 199);
        DeadWires x = Check.land(LAND);
        step(x, "again 5[move 2 20;];", 5, 0);
        Check.due("just 199", x.wire(2, 2), 199);
        Check.due("as told", x.wire(2, 3), 99);
    }

    private static void moveNotAt199() {
        DeadWires w = Check.land(LAND);
        step(w, "again 5[move 2 20;];move 2 1;", 5, 1);
        hours(w, 198);
        Check.due("hour", w.told(4), 198);
        Check.due("not live yet", w.wire(2, 4), 0);
        step(w, "hour;", 1, 0);
        Check.due("live at 199", w.wire(2, 4), 1);
    }

    private static void moveNotLiveOrCut() {
        DeadWires w = Check.land(LAND);
        hours(w, 2);
        step(w, "move 1 1;", 1, 0);
        hours(w, 2);
        step(w, "move 1 1;", 0, 1);
        Check.due("H stays", w.wire(1, 2), 4);
        step(w, "cut 1;move 1 1;", 1, 1);
        Check.due("H of the cut one", w.wire(1, 2), 4);
        step(w, "cut 0;move 0 1;", 1, 1);
        Check.due("cut ahead of its hour", w.wire(0, 2), 5);
    }

    // "cut: W is CUT, there is a pair of pliers less (REFUSED, if it is, or there are none)"

    private static void cutOnce() {
        DeadWires w = Check.land(LAND);
        step(w, "cut 1;cut 1;", 1, 1);
        Check.due("one pair less", w.told(7), 1);
        Check.due("cut", w.told(6), 2);
    }

    private static void cutWithPliers() {
        step(Check.land(LAND + "pliers 0;"), "cut 0;", 0, 1);
        DeadWires w = Check.land(LAND + "pliers 2;");
        step(w, "cut 0;cut 1;cut 2;", 2, 1);
        Check.due("none left", w.told(7), 0);
        Check.due("not the third", w.told(6), 3);
        Check.due("three pairs are enough", Check.work(Check.land(LAND + "pliers 3;"), "cut 0;cut 1;cut 2;"), 3);
    }

    private static void cutIsNeverLive() {
        DeadWires w = Check.land(LAND);
        hours(w, 99);
        Check.due("all live", w.told(5), 7);
        step(w, "cut 0;", 1, 0);
        Check.due("but the cut one", w.told(5), 6);
        Check.due("in 99 hours, too", w.ahead(99, 0), 6);
    }

    // "hour (REFUSED from HOUR 400 on): each PERSON is tired by 5 less (0 at least); HOUR is one more."

    private static void hourUpTo400() {
        DeadWires w = Check.land(LAND);
        hours(w, 399);
        Check.due("399", w.told(4), 399);
        step(w, "hour;", 1, 0);
        Check.due("400", w.told(4), 400);
        step(w, "cut 0;cut 1;", 2, 0);
        Check.law(w, "9");
        step(w, "cross 0 0;", 1, 0);
        step(w, "hour;", 0, 1);
        Check.due("400 still", w.told(4), 400);
        Check.due("and nobody has rested", w.person(0, 2), 9);
    }

    private static void hourRests() {
        int[][] due = {{4, 0}, {5, 0}, {6, 1}, {40, 35}};
        for (int[] row : due) {
            DeadWires w = Check.land(LAND);
            Check.law(w, String.valueOf(row[0]));
            step(w, "cross 0 0;hour;", 2, 0);
            Check.due("of " + row[0], w.person(0, 2), row[1]);
        }
        DeadWires all = Check.land(LAND);
        Check.law(all, "10 + person");
        step(all, "cross 0 0;cross 1 1;cross 2 0;hour;", 4, 0);
        Check.due("each: 0", all.person(0, 2), 5);
        Check.due("each: 1", all.person(1, 2), 6);
        Check.due("each: 2", all.person(2, 2), 7);
    }
}
