/** The sentences of part 3, each at its bounds. */
public final class AskedEdgesTest {
    public static void main(String[] args) {
        askedNothingStaysChanged();
        hoursGoByBeyond400();
        arrivesOneWireAnHour();
        arrivesByWiresNotLiveInIt();
        arrivesTollsNotAsked();
        arrivesNone();
        waitsZeroTo200();
        waitsToTheSame();
        waitsNone();
        grantZeroTo200();
        grantNone();
        pliersFewest();
        pliersLeastBits();
        pliersNone();
        haulGreatest();
        haulLeastBits();
        haulOfWhatLiesThere();
        fitsOneTo20();
        fitsNotCut();
        fitsAllLines();
        fitsFirst();
        lookInNoLine();
        lookAtTheWorst();
        lookOfTheseTheFirst();
        partsSingle();
        partsByWiresNotLive();
        tingleJustOne();
        leanRests();
        graceLevelled();
        graceAll();
        autumnDraws();
        autumnWithoutThings();
        autumnWithoutPersonsOrWires();
        autumnBelowQ();
        autumnMovesByThree();
        autumnIfItCan();
        drawWraps();
        Check.end();
    }

    private static void hours(DeadWires w, int many) {
        int left = many;
        while (left > 0) {
            int now = Math.min(left, 40);
            Check.work(w, "again " + now + "[hour;];");
            left -= now;
        }
    }

    // "Asked, nothing stays changed"

    private static void askedNothingStaysChanged() {
        Seen.leaves("toll", 8, w -> w.toll(0, 1));
        Seen.leaves("would", 40, w -> w.would(180, 40, 60, 99, 400, 12, 4));
        Seen.leaves("can", 1, w -> w.can(0, 1) ? 1 : 0);
        Seen.leaves("ahead", 6, w -> w.ahead(99, 0));
        Seen.leaves("ahead, tired", 0, w -> w.ahead(99, 1));
        Seen.leaves("arrives", 1, w -> w.arrives(0, 1));
        Seen.leaves("waits", 200, w -> w.waits(0, 1));
        Seen.leaves("grant", 0, w -> w.grant(3, 2));
        Seen.leaves("pliers", 6, w -> w.pliers(0, 3));
        Seen.leaves("haul", 5, w -> w.haul(0, 0));
        Seen.leaves("parts", 3, w -> w.parts(99));
        Seen.leaves("tingle", 0, w -> w.tingle(0, 0, 0));
        Seen.leaves("lean", 2, w -> w.lean(1, 1, 0));
        Seen.leaves("grace", 99, w -> w.grace(0, 7, 999));
        Seen.leaves("next", 1, w -> w.next(0));
        Seen.leaves("harp", 1, w -> w.harp(0));
        Seen.leaves("gates", 2, w -> w.gates(1, 2));
        Seen.leaves("ground", 3, w -> w.ground(0, 99));
        Seen.leaves("freest", 1, w -> w.freest(0));
        Seen.leaves("field", 15, w -> w.field(1, 0) + w.field(1, 1) + w.field(1, 2));
        Seen.leaves("span", 0, w -> w.span(3, 20, 16, 96, 0, 0) < 0 ? 1 : 0);
        Seen.leaves("autumn", 0, w -> w.autumn(3, 16, 96, 1) < 0 ? 1 : 0);
        Seen.leaves("fits, look", 0, w -> w.fits(0) < 0 || w.look(1) < 0 ? 1 : 0);
    }

    // "HOURS go by as by hour (beyond 400, too)"

    private static void hoursGoByBeyond400() {
        DeadWires w = Check.land("fields 3;wire 0 1 0;wire 1 2 0;person 0 9;");
        hours(w, 400);
        Check.work(w, "cut 0;cut 1;");
        Check.law(w, "39");
        Check.work(w, "cross 0 0;");
        Check.due("an hour ahead", w.ahead(1, 1), 34);
        Check.due("7 hours ahead", w.ahead(7, 1), 4);
        Check.due("8 hours ahead", w.ahead(8, 1), 0);
        Check.due("arrives", w.arrives(0, 2), 2);
        Check.due("waits", w.waits(0, 2), 200);
        Check.law(w, "hour - 400");
        Check.due("the hour of an autumn goes on", w.autumn(1, 0, 1, 3), 34);
        DeadWires high = Check.land("fields 2;wire 0 1 99;person 0 9;");
        hours(high, 400);
        Check.due("no hour by work", Check.work(high, "hour;"), 0);
        Check.due("live in 99", high.ahead(99, 0), 1);
    }

    // "ARRIVES: .. in each HOUR, from this one on, at most one WIRE being crossed, that is not LIVE in it (TOLLS not
    // asked): the fewest HOURS that have gone by as one is there (a crossing takes the HOUR); NONE."

    private static void arrivesOneWireAnHour() {
        DeadWires w = Check.land("fields 8;wire 0 1 99;wire 1 2 99;wire 2 3 99;wire 3 4 99;wire 4 5 99;wire 5 6 99;wire 6 7 99;");
        for (int to = 0; to < 8; to++) {
            Check.due("from 0 to " + to, w.arrives(0, to), to);
            Check.due("from 7 to " + to, w.arrives(7, to), 7 - to);
        }
        DeadWires ring = Check.land("fields 4;wire 0 1 99;wire 1 2 99;wire 2 3 99;wire 3 0 99;");
        Check.due("the fewest", ring.arrives(0, 3), 1);
        Check.due("either way", ring.arrives(0, 2), 2);
    }

    private static void arrivesByWiresNotLiveInIt() {
        // crossed in the hours 0, 1, 2: each is not live yet just then
        DeadWires just = Check.land("fields 4;wire 0 1 1;wire 1 2 2;wire 2 3 3;");
        Check.due("just in time", just.arrives(0, 3), 3);
        DeadWires late = Check.land("fields 4;wire 0 1 1;wire 1 2 2;wire 2 3 2;");
        Check.due("an hour too late", late.arrives(0, 3), -1);
        Check.due("so far", late.arrives(0, 2), 2);
        Check.due("live in the first hour", Check.land("fields 2;wire 0 1 0;").arrives(0, 1), -1);
        Check.work(just, "hour;");
        Check.due("from this hour on", just.arrives(0, 1), -1);
        Check.due("from 1 on", just.arrives(1, 3), 2);
        // the longer way, where the shorter one goes live
        DeadWires two = Check.land("fields 4;wire 0 1 9;wire 1 3 1;wire 1 2 9;wire 2 3 9;");
        Check.due("around", two.arrives(0, 3), 3);
    }

    private static void arrivesTollsNotAsked() {
        DeadWires w = Check.land("fields 2;wire 0 1 9;person 0 9;");
        Check.law(w, "40");
        Check.work(w, "cross 0 0;");
        Check.due("he can't", w.can(0, 0) ? 1 : 0, 0);
        Check.due("one can", w.arrives(1, 0), 1);
        Check.due("to be crossed to", w.field(1, 3), 1);
    }

    private static void arrivesNone() {
        DeadWires w = Check.land("fields 3;wire 0 1 9;");
        Check.due("no wire", w.arrives(0, 2), -1);
        Check.due("and back", w.arrives(2, 0), -1);
        Check.due("itself", w.arrives(2, 2), 0);
    }

    // "WAITS: the most HOURS (0 to 200) one may wait ahead of that and still come there; 0 to the same FIELD is 200; NONE."

    private static void waitsZeroTo200() {
        Check.due("0", Check.land("fields 2;wire 0 1 1;").waits(0, 1), 0);
        Check.due("1", Check.land("fields 2;wire 0 1 2;").waits(0, 1), 1);
        Check.due("98", Check.land("fields 2;wire 0 1 99;").waits(0, 1), 98);
        DeadWires w = Check.land("fields 2;wire 0 1 99;");
        Check.work(w, "again 5[move 0 20;];");
        Check.due("198, the most ahead of H", w.waits(0, 1), 198);
        Check.work(w, "cut 0;");
        Check.due("200 by a cut one", w.waits(0, 1), 200);
        DeadWires two = Check.land("fields 3;wire 0 1 50;wire 1 2 30;");
        Check.due("the second one counts: 28, and 29 to cross it", two.waits(0, 2), 28);
        DeadWires cut = Check.land("fields 3;wire 0 1 50;wire 1 2 30;");
        Check.work(cut, "cut 1;hour;");
        Check.due("from this hour on", cut.waits(0, 2), 48);
        Check.due("127, by all bits but the highest", many(128), 127);
        Check.due("128", many(129), 128);
    }

    /** How long one may wait ahead of a wire of that H. */
    private static int many(int live) {
        DeadWires w = Check.land("fields 2;wire 0 1 99;");
        int left = live - 99;
        while (left > 0) {
            Check.work(w, "move 0 " + Math.min(20, left) + ";");
            left -= 20;
        }
        return w.waits(0, 1);
    }

    private static void waitsToTheSame() {
        DeadWires w = Check.land("fields 2;wire 0 1 0;");
        Check.due("0 to 0", w.waits(0, 0), 200);
        Check.due("1 to 1", w.waits(1, 1), 200);
    }

    private static void waitsNone() {
        DeadWires w = Check.land("fields 3;wire 0 1 0;wire 1 2 9;");
        Check.due("live already", w.waits(0, 1), -1);
        Check.due("no way", w.waits(0, 2), -1);
        Check.due("0 to 8 would do", w.waits(1, 2), 8);
    }

    // "GRANT: the least N (0 to 200) by which, were H of all WIRES N more from now on, one would come there; NONE."

    private static void grantZeroTo200() {
        DeadWires w = Check.land("fields 3;wire 0 1 1;wire 1 2 1;");
        Check.due("none is needed", w.grant(0, 1), 0);
        Check.due("one, as two crossings take two hours", w.grant(0, 2), 1);
        Check.due("itself", w.grant(2, 2), 0);
        Check.work(w, "hour;");
        Check.due("1 for the next", w.grant(0, 1), 1);
        Check.due("2 for both", w.grant(0, 2), 2);
        hours(w, 126);
        Check.due("127", w.grant(0, 1), 127);
        Check.due("128", w.grant(0, 2), 128);
        hours(w, 72);
        Check.due("hour", w.told(4), 199);
        Check.due("199", w.grant(0, 1), 199);
        Check.due("200", w.grant(0, 2), 200);
    }

    private static void grantNone() {
        DeadWires w = Check.land("fields 4;wire 0 1 1;wire 1 2 1;");
        Check.due("no way by any", w.grant(0, 3), -1);
        hours(w, 200);
        Check.due("200 is the last", w.grant(0, 1), 200);
        Check.due("201 would be needed", w.grant(0, 2), -1);
        hours(w, 1);
        Check.due("201 for the next", w.grant(0, 1), -1);
        Check.work(w, "cut 0;");
        Check.due("a cut one needs none", w.grant(0, 1), 0);
        Check.due("but the other one", w.grant(0, 2), -1);
    }

    // "PLIERS: the fewest WIRES that must be CUT so that two FIELDS hang together by CUT ones alone; of as few the
    // least bits; NONE."

    private static void pliersFewest() {
        // the short way has high bits, the long one low ones
        DeadWires w = Check.land("fields 4;wire 0 1 9;wire 1 2 9;wire 2 3 9;wire 0 3 9;");
        Check.due("one of bit 3", w.pliers(0, 3), 8);
        Check.work(w, "cut 0;cut 1;");
        Check.due("of as few the least", w.pliers(0, 3), 4);
        Check.due("by cut ones already", w.pliers(0, 2), 0);
        Check.due("live or not", w.pliers(2, 3), 4);
        DeadWires longest = Check.land("fields 8;wire 0 1 9;wire 1 2 9;wire 2 3 9;wire 3 4 9;wire 4 5 9;wire 5 6 9;wire 6 7 9;");
        Check.due("seven", longest.pliers(0, 7), 127);
        Check.due("and back", longest.pliers(7, 0), 127);
        Check.due("more than there are pliers", longest.told(7), 2);
    }

    private static void pliersLeastBits() {
        DeadWires w = Check.land("fields 5;wire 0 1 9;wire 0 2 9;wire 2 4 9;wire 1 4 9;wire 0 3 9;wire 3 4 9;");
        Check.due("1 + 2 is 6, 0 + 3 is 9, 4 + 5 is 48", w.pliers(0, 4), 6);
    }

    private static void pliersNone() {
        DeadWires w = Check.land("fields 3;wire 0 1 9;");
        Check.due("no wires", w.pliers(0, 2), -1);
        Check.due("itself", w.pliers(2, 2), 0);
        Check.work(w, "cut 0;");
        Check.due("not by the cut one either", w.pliers(0, 2), -1);
    }

    // "HAUL of a PERSON: of all sets of THINGS that lie in his FIELD, those he carries not counted, that he could lift
    // to what he carries, that of greatest WEIGHT together; of alike ones the least bits."

    private static void haulGreatest() {
        String things = "fields 2;thing 0 7;thing 0 6;thing 0 5;thing 1 1;";
        int[][] due = {{4, 0, 0}, {5, 5, 4}, {6, 6, 2}, {7, 7, 1}, {10, 7, 1}, {11, 11, 6}, {12, 12, 5}, {13, 13, 3},
            {17, 13, 3}, {18, 18, 7}, {40, 18, 7}};
        for (int[] row : due) {
            DeadWires w = Check.land(things + "person 0 " + row[0] + ";");
            Check.due("weight of " + row[0], w.haul(0, 0), row[1]);
            Check.due("things of " + row[0], w.haul(0, 1), row[2]);
        }
        DeadWires six = Check.land("fields 1;thing 0 6;thing 0 6;thing 0 6;thing 0 6;thing 0 6;thing 0 6;person 0 36;");
        Check.due("all six", six.haul(0, 1), 63);
        DeadWires one = Check.land("fields 1;thing 0 1;person 0 1;");
        Check.due("of weight 1", one.haul(0, 1), 1);
    }

    private static void haulLeastBits() {
        DeadWires w = Check.land("fields 1;thing 0 3;thing 0 9;thing 0 6;thing 0 9;person 0 9;");
        Check.due("2 is less than 5 and 8", w.haul(0, 1), 2);
        Check.work(w, "lift 0 1;");
        Check.due("full", w.haul(0, 0), 0);
        Check.due("nothing", w.haul(0, 1), 0);
    }

    private static void haulOfWhatLiesThere() {
        DeadWires w = Check.land("fields 2;wire 0 1 9;thing 0 4;thing 0 3;thing 1 2;person 0 9;person 0 9;person 1 9;");
        Check.due("two lie there", w.haul(0, 1), 3);
        Check.work(w, "lift 1 0;");
        Check.due("what another one carries does not lie there", w.haul(0, 1), 2);
        Check.due("those he carries not counted", w.haul(1, 1), 2);
        Check.due("only what is to be lifted weighs", w.haul(1, 0), 3);
        Check.work(w, "cross 1 0;set 1 0;");
        Check.due("where it was set down", w.haul(2, 1), 5);
    }

    // "FITS by BOOK: pairs of a WIRE that is not CUT and a number N (1 to 20) by which, were its H N more now, as many
    // would be LIVE as told in all lines: how many, the first (by WIRE, then N)."

    private static void fitsOneTo20() {
        DeadWires w = Check.land("fields 2;wire 0 1 5;");
        Check.due("all twenty", w.fits(0), 20);
        Check.book(w, "5 0;");
        Check.due("from 1 on", w.fits(0), 20);
        Check.due("1 is enough", w.fits(1), 1);
        Check.book(w, "24 0;");
        Check.due("20 alone", w.fits(0), 1);
        Check.due("it", w.fits(1), 20);
        Check.book(w, "25 0;");
        Check.due("none", w.fits(0), 0);
        Check.due("NONE", w.fits(1), -1);
        Check.book(w, "4 0;25 1;");
        Check.due("as it is anyhow", w.fits(0), 20);
    }

    private static void fitsNotCut() {
        DeadWires w = Check.land("fields 3;wire 0 1 5;wire 1 2 6;");
        Check.due("two wires", w.fits(0), 40);
        Check.work(w, "cut 0;");
        Check.due("one", w.fits(0), 20);
        Check.due("the first", w.fits(1), 101);
        Check.book(w, "6 1;");
        Check.due("the cut one is not live", w.fits(0), 0);
        Check.work(w, "cut 1;");
        Check.book(w, "");
        Check.due("none is left", w.fits(0), 0);
        Check.due("none at all", Check.land("fields 2;").fits(0), 0);
    }

    private static void fitsAllLines() {
        DeadWires w = Check.land("fields 3;wire 0 1 5;wire 1 2 8;");
        // at 5 none and at 10 both: the first by 1 to 5
        Check.book(w, "5 0;10 2;");
        Check.due("five", w.fits(0), 5);
        // and at 8 one: the first by 4, 5
        Check.book(w, "5 0;10 2;8 1;");
        Check.due("two", w.fits(0), 2);
        Check.due("the first", w.fits(1), 4);
        Check.book(w, "5 0;10 2;8 1;9 1;");
        Check.due("one", w.fits(1), 5);
        Check.book(w, "5 0;10 2;8 1;9 1;40 1;");
        Check.due("the last line counts, too", w.fits(0), 0);
        Check.work(w, "hour;");
        Check.book(w, "4 0;");
        Check.due("lines are by hours from now", w.fits(0), 20);
        // one that is live now could be moved as well
        DeadWires live = Check.land("fields 2;wire 0 1 0;");
        Check.book(live, "0 0;2 1;");
        Check.due("by 1, 2", live.fits(0), 2);
    }

    private static void fitsFirst() {
        StringBuilder twelve = new StringBuilder("fields 8;");
        for (int i = 0; i < 7; i++) {
            twelve.append("wire 0 ").append(i + 1).append(" 1;");
        }
        for (int i = 0; i < 5; i++) {
            twelve.append("wire 1 ").append(i + 2).append(i < 4 ? " 1;" : " 30;");
        }
        DeadWires w = Check.land(twelve.toString());
        Check.due("12 times 20", w.fits(0), 240);
        Check.due("first wire, 1", w.fits(1), 1);
        Check.book(w, "30 11;40 11;");
        Check.due("the last wire by 11 on", w.fits(1), 1111);
        Check.due("ten", w.fits(0), 10);
        DeadWires two = Check.land("fields 3;wire 0 1 5;wire 1 2 6;");
        Check.book(two, "24 1;");
        Check.due("the first by 20, the second by 19, 20", two.fits(0), 3);
        Check.due("first by wire, then by N", two.fits(1), 20);
    }

    // "LOOK: the K (0 to 40) in no line by which, however many are LIVE then, fewest such pairs are left at the worst,
    // of these the first."

    private static void lookInNoLine() {
        DeadWires none = new DeadWires();
        Check.due("without wires the first", none.look(0), 0);
        Check.due("none left", none.look(1), 0);
        Check.book(none, "0 0;1 0;2 0;3 0;4 0;5 0;6 0;8 0;");
        Check.due("the first in no line", none.look(0), 7);
        DeadWires w = Check.land("fields 2;wire 0 1 26;");
        Check.due("36: 1 to 10 are live, 11 to 20 not", w.look(0), 36);
        Check.book(w, "36 0;");
        Check.due("the ten by 11 on are left", w.fits(0), 10);
        Check.due("of 37 to 40: 40, 4 live and 6 not", w.look(0), 40);
        Check.due("6", w.look(1), 6);
        DeadWires late = Check.land("fields 2;wire 0 1 50;");
        Check.due("nothing tells: the first", late.look(0), 0);
        Check.due("all are left", late.look(1), 20);
    }

    private static void lookAtTheWorst() {
        DeadWires w = Check.land("fields 3;wire 0 1 5;wire 1 2 5;");
        // at 15 a moved one is live by 1 to 10, and not by 11 to 20
        Check.due("two wires", w.look(1), 20);
        Check.due("at 5 all are one less", w.look(0), 15);
        Check.book(w, "15 1;");
        Check.due("10 of each", w.fits(0), 20);
        Check.due("halved", w.look(1), 10);
        Check.due("at 20", w.look(0), 20);
    }

    private static void lookOfTheseTheFirst() {
        DeadWires w = Check.land("fields 2;wire 0 1 5;");
        Check.book(w, "7 0;9 1;");
        // by 3 and 4; 8 tells them apart; no other does
        Check.due("two", w.fits(0), 2);
        Check.due("8", w.look(0), 8);
        Check.due("one", w.look(1), 1);
        Check.book(w, "7 0;8 1;");
        Check.due("one pair", w.fits(0), 1);
        Check.due("all hours alike: the first", w.look(0), 0);
        Check.due("one stays", w.look(1), 1);
    }

    // "PARTS in n HOURS: how many sets of FIELDS hang together by WIRES that are not LIVE then (a single one is one)."

    private static void partsSingle() {
        Check.due("no fields", new DeadWires().parts(0), 0);
        Check.due("one", Check.land("fields 1;").parts(0), 1);
        Check.due("eight single ones", Check.land("fields 8;").parts(99), 8);
        Check.due("all eight together", Check.land("fields 8;wire 7 6 1;wire 6 5 1;wire 5 4 1;wire 4 3 1;wire 3 2 1;"
                + "wire 2 1 1;wire 1 0 1;").parts(0), 1);
    }

    private static void partsByWiresNotLive() {
        DeadWires w = Check.land("fields 3;wire 0 1 99;wire 1 2 98;");
        Check.due("now", w.parts(0), 1);
        Check.due("97", w.parts(97), 1);
        Check.due("98", w.parts(98), 2);
        Check.due("99", w.parts(99), 3);
        Check.work(w, "hour;cut 1;");
        Check.due("a cut one is never live", w.parts(99), 2);
        Check.due("in 97 from now", w.parts(97), 1);
        Check.due("in 98 from now", w.parts(98), 2);
    }

    // "TINGLE of n, q: each of n feels it by q of 16, each by himself: how likely just one does."

    private static void tingleJustOne() {
        for (int n = 0; n <= 12; n++) {
            for (int q = 0; q <= 16; q++) {
                DeadWires w = new DeadWires();
                java.math.BigInteger above = java.math.BigInteger.valueOf((long) n * q)
                        .multiply(java.math.BigInteger.valueOf(16 - q).pow(Math.max(0, n - 1)));
                java.math.BigInteger below = java.math.BigInteger.valueOf(16).pow(n);
                java.math.BigInteger common = above.gcd(below);
                Check.due("above " + n + " " + q, w.tingle(n, q, 0), above.divide(common).longValueExact());
                Check.due("below " + n + " " + q, w.tingle(n, q, 1), below.divide(common).longValueExact());
            }
        }
    }

    // "LEAN of two by v, w: .. both lean: each has v; one leans: he has 0 less w, the other one 0; neither: each has 0;
    // RESTS: neither would have more by the other thing."

    private static void leanRests() {
        DeadWires x = new DeadWires();
        int[][] due = {{0, 0, 4}, {0, 1, 2}, {1, 0, 2}, {1, 1, 2}, {99, 0, 2}, {0, 99, 2}, {99, 99, 2}};
        for (int[] row : due) {
            Check.due("rests by " + row[0] + " " + row[1], x.lean(row[0], row[1], 0), row[2]);
            Check.due("both lean first", x.lean(row[0], row[1], 1), 0);
            Check.due("v each", x.lean(row[0], row[1], 2), 2 * row[0]);
        }
    }

    // "GRACE of n among told WIRES (bits) by HOURS left (as in the LAW): levelled: no more than that each, no more than
    // a bound, the greatest by which no more than n are given (all, if they are no more)."

    private static void graceLevelled() {
        DeadWires w = Check.land("fields 4;wire 0 1 2;wire 1 2 5;wire 2 3 9;");
        int[][] due = {{0, 0, 0, 0}, {2, 0, 0, 0}, {3, 1, 1, 1}, {5, 1, 1, 1}, {6, 2, 2, 2}, {7, 2, 2, 2}, {8, 2, 3, 3},
            {11, 2, 4, 4}, {12, 2, 5, 5}, {13, 2, 5, 6}, {15, 2, 5, 8}, {16, 2, 5, 9}, {17, 2, 5, 9}, {999, 2, 5, 9}};
        for (int[] row : due) {
            for (int i = 0; i < 3; i++) {
                Check.due("wire " + i + " of " + row[0], w.grace(i, 7, row[0]), row[i + 1]);
            }
        }
        Check.due("none of them", w.grace(0, 6, 999), 0);
        Check.due("of two", w.grace(2, 6, 13), 8);
        Check.due("of none", w.grace(2, 0, 999), 0);
    }

    private static void graceAll() {
        StringBuilder twelve = new StringBuilder("fields 8;pliers 9;");
        for (int i = 0; i < 7; i++) {
            twelve.append("wire 0 ").append(i + 1).append(" 99;");
        }
        for (int i = 0; i < 5; i++) {
            twelve.append("wire 1 ").append(i + 2).append(" 99;");
        }
        DeadWires w = Check.land(twelve.toString());
        Check.due("12 times 83 are 996", w.grace(11, 4095, 999), 83);
        Check.due("996", w.grace(0, 4095, 996), 83);
        Check.due("995", w.grace(0, 4095, 995), 82);
        Check.due("10 times 99", w.grace(9, 1023, 990), 99);
        Check.due("989", w.grace(9, 1023, 989), 98);
        Check.wrong("a 13th bit", () -> w.grace(0, 4096, 1));
        Check.work(w, "again 2[move 0 20;];cut 1;");
        Check.due("139 left are 99", w.grace(0, 1, 999), 99);
        Check.due("cut ones have 99", w.grace(1, 3, 999), 99);
        Check.due("half each", w.grace(1, 3, 101), 50);
    }

    // "An AUTUMN by a SEED: for so many HOURS: DRAW by how many PERSONS, DRAW by how many WIRES: cross (if it can be
    // done); DRAW by how many THINGS (not, if there are none): lift by that PERSON (if it can); DRAW by 16 below Q:
    // move of that WIRE by 3 (if it can); then hour."

    private static int seed;

    private static int draw(int by) {
        seed = seed * 1103515245 + 12345;
        return (seed >>> 16 & 32767) % by;
    }

    private static void autumnDraws() {
        // one person, one wire, one thing: every draw but the fourth is of one, so all is known
        DeadWires w = Check.land("fields 2;wire 0 1 2;thing 0 9;person 1 9;");
        Check.law(w, "load");
        // hour 0: crosses to 0, lifts there; hour 1: crosses with it, by 9; hour 2: it is live
        Check.due("one crossing", w.autumn(0, 0, 1, 0), 1);
        Check.due("lifted behind the crossing", w.autumn(0, 0, 1, 1), 1);
        Check.due("not tired: nothing was carried ahead", w.autumn(0, 0, 1, 3), 0);
        Check.due("two", w.autumn(0, 0, 2, 0), 2);
        Check.due("9 less 5", w.autumn(0, 0, 2, 3), 4);
        Check.due("live behind the second hour", w.autumn(0, 0, 2, 2), 1);
        Check.due("not behind the first", w.autumn(0, 0, 1, 2), 0);
        Check.due("no third", w.autumn(0, 0, 96, 0), 2);
    }

    private static void autumnWithoutThings() {
        // the third draw of each hour is the one below Q, if there are no things, else the fourth
        for (int first = 0; first < 40; first++) {
            DeadWires bare = Check.land("fields 2;wire 0 1 1;person 0 9;");
            DeadWires full = Check.land("fields 2;wire 0 1 1;person 0 9;thing 0 30;");
            seed = first;
            draw(1);
            draw(1);
            Check.due("without, seed " + first, bare.autumn(first, 8, 1, 2), draw(16) < 8 ? 0 : 1);
            Check.due("with one, seed " + first, full.autumn(first, 8, 1, 2), draw(16) < 8 ? 0 : 1);
        }
    }

    private static void autumnWithoutPersonsOrWires() {
        DeadWires nobody = Check.land("fields 2;wire 0 1 9;thing 0 1;");
        Check.due("nothing is moved", nobody.autumn(1, 16, 9, 2), 1);
        Check.due("hours go by", nobody.autumn(1, 16, 8, 2), 0);
        Check.due("nobody crosses", nobody.autumn(1, 16, 96, 0), 0);
        DeadWires noWires = Check.land("fields 1;thing 0 1;person 0 9;");
        Check.due("nothing is lifted", noWires.autumn(1, 16, 96, 1), 0);
        Check.due("no crossings", noWires.span(1, 20, 16, 96, 1, 0), 0);
        Check.due("nobody is elsewhere", noWires.span(1, 20, 16, 96, 2, 0), 0);
        Check.due("nothing at all", new DeadWires().autumn(1, 16, 96, 3), 0);
    }

    private static void autumnBelowQ() {
        // the fourth draw of the first hour: the wire is moved, if it is below q
        for (int first = 0; first < 16; first++) {
            seed = first;
            draw(1);
            draw(1);
            draw(1);
            int drawn = draw(16);
            DeadWires w = Check.land("fields 2;wire 0 1 1;thing 0 1;person 0 9;");
            Check.due("q as drawn", w.autumn(first, drawn, 1, 2), 1);
            Check.due("q one more", w.autumn(first, drawn + 1, 1, 2), 0);
            Check.due("never by 0", w.autumn(first, 0, 1, 2), 1);
            Check.due("always by 16", w.autumn(first, 16, 1, 2), 0);
            Check.due("moved each hour it is never live", w.autumn(first, 16, 96, 2), 0);
        }
    }

    private static void autumnMovesByThree() {
        int found = 0;
        for (int first = 0; first < 400; first++) {
            seed = first;
            int[] drawn = new int[4];
            for (int i = 0; i < 4; i++) {
                draw(1);
                draw(1);
                drawn[i] = draw(16);
            }
            // moved in the first hour alone, from 1 to 4
            if (drawn[0] < Math.min(drawn[1], Math.min(drawn[2], drawn[3]))) {
                found++;
                DeadWires w = Check.land("fields 2;wire 0 1 1;person 0 9;");
                Check.due("not live at 3, seed " + first, w.autumn(first, drawn[0] + 1, 3, 2), 0);
                Check.due("live at 4, seed " + first, w.autumn(first, drawn[0] + 1, 4, 2), 1);
            }
        }
        Check.due("there are such seeds", found > 10 ? 1 : 0, 1);
    }

    private static void autumnIfItCan() {
        DeadWires w = Check.land("fields 3;wire 0 1 99;thing 2 1;person 2 9;");
        Check.due("he can't cross", w.autumn(5, 0, 96, 0), 0);
        Check.due("but lift", w.autumn(5, 0, 1, 1), 1);
        DeadWires weak = Check.land("fields 2;wire 0 1 99;thing 0 9;person 0 8;");
        Check.due("can't lift", weak.autumn(5, 0, 96, 1), 0);
        DeadWires live = Check.land("fields 2;wire 0 1 0;person 0 9;");
        Check.due("a live one is not moved", live.autumn(5, 16, 96, 2), 1);
        DeadWires tired = Check.land("fields 2;wire 0 1 99;person 0 9;");
        Check.law(tired, "40");
        // 40, rests to 35; 75 is too much; 30, 25, 20 and then again
        Check.due("one, then none for three hours", tired.autumn(5, 0, 4, 0), 1);
        Check.due("20 at that hour", tired.autumn(5, 0, 4, 3), 20);
        Check.due("the second", tired.autumn(5, 0, 5, 0), 2);
        Check.due("60 less 5", tired.autumn(5, 0, 5, 3), 55);
    }

    // "DRAW: the SEED (32 bits) becomes itself times 1,103,515,245, and 12,345 (it wraps); its bits 16 to 30, what is
    // left of them."

    private static void drawWraps() {
        // which of two persons in two fields crosses tells the first draw; the second one is by a single wire
        int[] seeds = {0, 1, 2, -1, 65535, 65536, Integer.MAX_VALUE, Integer.MIN_VALUE, 123456789};
        for (int first : seeds) {
            DeadWires w = Check.land("fields 2;wire 0 1 99;person 0 9;person 0 9;person 0 9;person 0 9;person 0 9;");
            Check.law(w, "6 + person");
            seed = first;
            Check.due("drawn by 5 of " + first, w.autumn(first, 0, 1, 3) - 1, draw(5));
        }
        // seeds of a span wrap, too
        DeadWires w = Check.land("fields 3;wire 0 1 50;wire 1 2 50;person 0 9;person 1 9;");
        int most = Math.max(w.autumn(Integer.MAX_VALUE, 3, 30, 0), w.autumn(Integer.MIN_VALUE, 3, 30, 0));
        int fewest = Math.min(w.autumn(Integer.MAX_VALUE, 3, 30, 0), w.autumn(Integer.MIN_VALUE, 3, 30, 0));
        Check.due("most by the last seed and the first", w.span(Integer.MAX_VALUE, 2, 3, 30, 1, 0), most);
        Check.due("fewest", w.span(Integer.MAX_VALUE, 2, 3, 30, 0, 0), fewest);
    }
}
