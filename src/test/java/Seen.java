import java.util.ArrayList;
import java.util.List;

/**
 * All that can be seen of an object, as a row of answers; it ends by using the object up (the tape is read,
 * works are undone, images brought back), so that what is kept inside is seen too.
 * Two objects that were treated alike up to a call that must change nothing have to give the same rows.
 */
final class Seen {
    private final DeadWires wires;
    private final List<String> names = new ArrayList<>();
    private final List<Long> answers = new ArrayList<>();

    private Seen(DeadWires wires) {
        this.wires = wires;
    }

    /** In the midst of things: law, book, works done, an image, works in it, a fault told, bytes on the tape. */
    static DeadWires midway() {
        DeadWires w = Check.land("fields 4;wire 0 1 5;wire 1 2 4;wire 2 3 9;thing 0 8;thing 1 5;"
                + "thing 3 6;thing 1 6;person 0 13;person 2 40;pliers 3;");
        Check.law(w, "1 + load / 2 + hour");
        Check.book(w, "3 1;6 2;");
        Check.work(w, "lift 0 0;cross 0 0;hour;");
        Check.work(w, "move 2 4;hour;cut 0;");
        w.image();
        Check.work(w, "lift 1 0;cross 1 1;hour;");
        Check.law(w, "1 + load / 2 + hour ; ");
        Check.feed(w, "cross 0 1;set 0 0;  ");
        return w;
    }

    private void see(String name, Check.Call call) {
        names.add(name);
        answers.add(Check.answer(call));
    }

    private void seeNow(String when) {
        for (int what = 0; what <= 11; what++) {
            int asked = what;
            see(when + "told " + what, () -> wires.told(asked));
        }
        for (int i = 0; i < 2; i++) {
            int person = i;
            see(when + "field of " + i, () -> wires.person(person, 1));
            see(when + "tired " + i, () -> wires.person(person, 2));
            see(when + "carried by " + i, () -> wires.person(person, 4));
            see(when + "toll of " + i, () -> wires.toll(person, 1));
            see(when + "where " + i, () -> wires.thing(person, 1));
            see(when + "by whom " + i, () -> wires.thing(person, 2));
        }
        for (int i = 0; i < 3; i++) {
            int wire = i;
            see(when + "A " + i, () -> wires.wire(wire, 0));
            see(when + "H " + i, () -> wires.wire(wire, 2));
            see(when + "H told " + i, () -> wires.wire(wire, 3));
        }
        see(when + "fits", () -> wires.fits(0));
        see(when + "first", () -> wires.fits(1));
        see(when + "look", () -> wires.look(0));
        see(when + "autumn", () -> wires.autumn(7, 8, 40, 3));
        see(when + "stuck", () -> wires.stuck());
        see(when + "images", () -> wires.count(0));
        see(when + "works", () -> wires.count(2));
    }

    private void seeAll() {
        see("fault", () -> wires.fault());
        see("missing", () -> wires.status(0));
        see("wrong", () -> wires.status(1));
        see("tape", () -> wires.count(1));
        seeNow("now: ");
        see("what is on the tape", () -> wires.work(20));
        see("fault of it", () -> wires.fault());
        seeNow("with that: ");
        see("undo", () -> wires.undo());
        see("undo", () -> wires.undo());
        seeNow("undone: ");
        see("restore", () -> wires.restore());
        seeNow("restored: ");
        see("undo", () -> wires.undo());
        see("undo", () -> wires.undo());
        see("undo", () -> wires.undo());
        seeNow("at first: ");
    }

    /** Everything but the count of refusals has to be alike; those by which the one may have more are told. */
    static void alike(String what, DeadWires one, DeadWires other, int missing, int wrong) {
        Seen left = new Seen(one);
        Seen right = new Seen(other);
        left.seeAll();
        right.seeAll();
        for (int i = 0; i < left.names.size(); i++) {
            String name = left.names.get(i);
            long more = name.equals("missing") ? missing : name.equals("wrong") ? wrong : 0;
            Check.due("behind " + what + ", " + name, left.answers.get(i), right.answers.get(i) + more);
        }
    }

    interface Act {
        long on(DeadWires wires);
    }

    /** The call answers so, and all stays as it was. */
    static void leaves(String what, long due, Act act) {
        DeadWires w = midway();
        Check.due(what, () -> act.on(w), due);
        alike(what, w, midway(), due == Check.MISSING ? 1 : 0, due == Check.WRONG ? 1 : 0);
    }

    static void leavesWrong(String what, Act act) {
        leaves(what, Check.WRONG, act);
    }

    static void leavesMissing(String what, Act act) {
        leaves(what, Check.MISSING, act);
    }
}
