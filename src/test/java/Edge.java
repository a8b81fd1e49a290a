import java.util.function.Supplier;

/** Scenes to ask at, and all that later calls show of an object: so that a refused call can be seen to change nothing. */
final class Edge {
    /** A call, and what it answered. */
    interface Call {
        long on(FiveThings x);
    }

    /** Numbers that are neither a place, nor a set, nor a "what" of any house. */
    private static final int[] FAR = {Integer.MIN_VALUE, Integer.MIN_VALUE + 1, -1000000, -65536, -257, -256, -32, -9,
        -2, 300, 512, 1000, 65536, 1 << 24, 1 << 30, Integer.MAX_VALUE - 1, Integer.MAX_VALUE};

    private Edge() {
    }

    static int[] far() {
        return FAR.clone();
    }

    /**
     * In the midst of DAY 2: both IMAGES kept and unlike NOW and one another, a BUNDLE, people with all, some and none
     * LEFT, a TRACE, and a text that waits.
     */
    static FiveThings busy(String waiting) {
        FiveThings x = Check.told("rooms 5;person 3 4;person 2 0;person 1 9;thing 0 1;thing 0 2;thing 1 3;thing 4 1;"
                + "thing 4 1;task 0 2;task 1 3;task 3 0;");
        x.keep(0);
        x.slept();
        x.tied(0, 24);
        x.lifted(1, 4, 1);
        x.lifted(3, 1, 3);
        x.keep(1);
        x.slept();
        x.untied(3);
        x.tied(0, 12);
        x.dropped(2);
        x.lifted(1, 0, 4);
        x.rate(4, 1);
        Check.type(x, waiting);
        return x;
    }

    /** Busy, with a text without a fault that waits. */
    static FiveThings busy() {
        return busy("rooms 3;person 9 9;thing 2 1;thing 2 3;task 1 0;");
    }

    /** What the calls that change nothing answer: 70 calls, so that an object stays far below its 512. */
    static String shown(FiveThings x) {
        StringBuilder s = new StringBuilder();
        for (int what = 0; what <= 6; what++) {
            note(s, "count " + what, x.count(what));
        }
        for (int p = 0; p < 4; p++) {
            for (int what = 0; what <= 2; what++) {
                note(s, "person " + p + " " + what, x.person(p, what));
            }
        }
        for (int t = 0; t < 8; t++) {
            for (int what = 0; what <= 3; what++) {
                note(s, "thing " + t + " " + what, x.thing(t, what));
            }
        }
        for (int i = 0; i <= 1; i++) {
            note(s, "fewest " + i, x.fewest(i));
            note(s, "due " + i, x.due(i));
            note(s, "moved 0 " + i, x.moved(0, i));
            note(s, "moved 1 " + i, x.moved(1, i));
        }
        for (int room = 0; room < 6; room++) {
            note(s, "chain " + room, x.chain(room, 1));
        }
        note(s, "can", x.can());
        note(s, "cheap", x.cheap());
        note(s, "least people", x.leastPeople());
        note(s, "lost", x.lost());
        note(s, "trace", x.trace());
        return s.toString();
    }

    private static void note(StringBuilder s, String what, long answer) {
        s.append(what).append(" = ").append(answer).append("\n");
    }

    /** All that can be found out: NOW, what the IMAGES have, and what THE TEXT tells. It uses the object up. */
    static String all(FiveThings x) {
        StringBuilder s = new StringBuilder(shown(x));
        note(s, "BACK 0", x.back(0));
        s.append(shown(x));
        note(s, "BACK 1", x.back(1));
        s.append(shown(x));
        note(s, "HOUSE", x.house());
        s.append(shown(x));
        return s.toString();
    }

    /** The call answers so, and of two objects that were alike the one that it was asked of is still like the other. */
    static void unchanged(String what, Supplier<FiveThings> scene, Call call, long due) {
        FiveThings asked = scene.get();
        FiveThings spared = scene.get();
        Check.same(what, call.on(asked), due);
        Check.alike(what + " changes nothing", all(asked), all(spared));
    }

    /** The text has its fault where ^ stands, and nothing changes by it. */
    static void faultAt(String says, String marked) {
        int place = marked.indexOf('^');
        faultAt(says, marked.substring(0, place) + marked.substring(place + 1), place);
    }

    static void faultAt(String says, String text, int place) {
        unchanged(says + " '" + text + "'", () -> busy(text), FiveThings::house, -10 - place);
    }

    /** The text has no fault, and so many ITEMS; the object that was told it. */
    static FiveThings read(String says, String text, int items) {
        FiveThings x = busy(text);
        Check.same(says + " '" + text + "'", x.house(), items);
        Check.same(says + " '" + text + "' is empty then", x.count(6), 0);
        return x;
    }

    static String times(int n, String item) {
        return item.repeat(n);
    }

    static FiveThings people(int n) {
        return Check.told(times(n, "person 9 0;") + "thing 0 1;thing 0 1;");
    }

    static FiveThings things(int n) {
        return Check.told("person 9 0;" + times(n, "thing 0 1;"));
    }
}
