/** Promises 8 and 38 to 41: days undone, images, refusals and counts. */
public final class KeepTest {
    private static final String LAND = "fields 3;wire 0 1 9;wire 1 2 9;thing 0 4;person 0 9;";

    public static void main(String[] args) {
        images();
        worksInImages();
        fullShelf();
        refusedBehindRestore();
        status();
        counts();
        Check.end();
    }

    private static void images() {
        DeadWires w = Check.land(LAND);
        Check.due("first", w.image(), 1);
        Check.work(w, "lift 0 0;cross 0 0;hour;");
        Check.due("second", w.image(), 2);
        Check.work(w, "cross 0 1;move 0 7;cut 1;hour;");
        Check.due("third", w.image(), 3);
        Check.due("no fourth", w.image(), -1);
        Check.due("three", w.count(0), 3);
        Check.work(w, "set 0 0;hour;");
        Check.due("back to the third", w.restore(), 2);
        Check.due("carried", w.thing(0, 2), 0);
        Check.due("hour", w.told(4), 2);
        Check.due("cut", w.told(6), 2);
        Check.due("back to the second", w.restore(), 1);
        Check.due("H", w.wire(0, 2), 9);
        Check.due("cut", w.told(6), 0);
        Check.due("pliers", w.told(7), 2);
        Check.due("crossings", w.told(11), 1);
        Check.due("where", w.person(0, 1), 1);
        Check.due("tired: 2 less 5", w.person(0, 2), 0);
        Check.due("there is room again", w.image(), 2);
        Check.due("back to that", w.restore(), 1);
        Check.due("hour", w.told(4), 1);
        Check.due("back to the first", w.restore(), 0);
        Check.due("hour", w.told(4), 0);
        Check.due("lies", w.field(0, 0), 1);
        Check.due("none", w.restore(), -1);
    }

    private static void worksInImages() {
        DeadWires w = Check.land(LAND);
        Check.work(w, "hour;");
        Check.work(w, "hour;hour;");
        w.image();
        Check.due("undo", w.undo(), 1);
        Check.due("undo", w.undo(), 0);
        Check.work(w, "cut 0;");
        Check.work(w, "cut 1;");
        Check.work(w, "lift 0 0;");
        Check.due("works", w.count(2), 3);
        Check.due("restore", w.restore(), 0);
        Check.due("works as in the image", w.count(2), 2);
        Check.due("hour", w.told(4), 3);
        Check.due("undo", w.undo(), 1);
        Check.due("hour", w.told(4), 1);
        Check.due("undo", w.undo(), 0);
        Check.due("hour", w.told(4), 0);
        Check.due("cut", w.told(6), 0);
        Check.due("none", w.undo(), -1);
    }

    private static void fullShelf() {
        DeadWires w = Check.land(LAND);
        for (int i = 1; i <= 16; i++) {
            Check.due("work", Check.work(w, "hour;"), 1);
        }
        for (int i = 1; i <= 3; i++) {
            Check.due("image", w.image(), i);
            Check.due("undo", w.undo(), 16 - i);
        }
        Check.due("hour", w.told(4), 13);
        for (int i = 2; i >= 0; i--) {
            Check.due("restore", w.restore(), i);
            Check.due("works", w.count(2), 16 - i);
            Check.due("hour", w.told(4), 16 - i);
        }
        w.feed(0, 0, 0, 0, 0);
        Check.due("full again", w.work(0), -20);
        for (int i = 15; i >= 0; i--) {
            Check.due("undo", w.undo(), i);
            Check.due("hour", w.told(4), i);
        }
    }

    private static void refusedBehindRestore() {
        DeadWires w = Check.land(LAND);
        w.image();
        Check.work(w, "cross 0 1;cross 0 1;");
        Check.due("refused", w.told(10), 2);
        Check.due("an image changes nothing", w.image(), 2);
        Check.due("refused", w.told(10), 2);
        w.restore();
        Check.due("behind restore", w.told(10), 0);
        Check.work(w, "cross 0 1;");
        Check.due("undo", w.undo(), 1);
        Check.due("behind undo", w.told(10), 0);
        w.restore();
        Check.work(w, "cross 0 1;");
        Check.due("no image any more", w.restore(), -1);
        Check.due("nothing was restored", w.told(10), 1);
    }

    private static void status() {
        DeadWires w = Check.land(LAND);
        w.image();
        Check.missing("field", () -> w.field(9, 9));
        Check.missing("toll", () -> w.toll(9, 9));
        Check.wrong("what", () -> w.field(0, 9));
        Check.due("misses", w.status(0), 2);
        Check.due("wrong ones", w.status(1), 1);
        w.restore();
        Check.due("no image keeps it", w.status(0), 2);
        Check.due("faulty texts are no refusals", Check.law(w, "x"), -9);
        Check.due("wrong ones", w.status(1), 1);
        Check.country(w, LAND);
        Check.due("no country either", w.status(0), 2);
        Check.due("others", w.status(2), -1);
        Check.due("others", w.status(-1), -1);
        Check.due("and these are not refused", w.status(1), 1);
    }

    private static void counts() {
        DeadWires w = Check.land(LAND);
        Check.due("images", w.count(0), 0);
        w.image();
        Check.due("images", w.count(0), 1);
        w.feed(1, 2, 3, 4, 5);
        Check.due("bytes", w.count(1), 20);
        w.work(0);
        Check.due("bytes", w.count(1), 0);
        Check.due("works", w.count(2), 1);
        Check.due("others", w.count(3), -1);
        Check.due("others", w.count(-1), -1);
        Check.due("not refused", w.status(1), 0);
    }
}
