import java.util.function.Supplier;

/** Refused, and nothing changes: every call with numbers that are not as told, and the order BAD, STATE, FULL. */
public final class RefusedTest {
    private static final int BAD = FiveThings.BAD, STATE = FiveThings.STATE, FULL = FiveThings.FULL;
    private static final int NO = FiveThings.NO;

    /** A call of one number. */
    private interface Asked {
        long of(FiveThings x, int number);
    }

    public static void main(String[] args) {
        housePlaces();
        dayPlaces();
        daySets();
        askPlaces();
        kindPlaces();
        everyPlaceWrong();
        badBeforeState();
        badBeforeFull();
        stateAlone();
        Check.end();
    }

    /** BAD for all far numbers, and for those next to what is allowed. */
    private static void wrong(String what, Asked call, int due, int... next) {
        wrong(what + " busy", Edge::busy, call, due, next);
        wrong(what + " new", FiveThings::new, call, due, next);
    }

    private static void wrong(String what, Supplier<FiveThings> scene, Asked call, int due, int... next) {
        for (int number : Edge.far()) {
            Edge.unchanged(what + " " + number, scene, x -> call.of(x, number), due);
        }
        for (int number : next) {
            Edge.unchanged(what + " " + number, scene, x -> call.of(x, number), due);
        }
    }

    private static void housePlaces() {
        wrong("type n", (x, i) -> x.type(59, i), BAD, 0, 9, -1);
        wrong("type n, nothing in it", (x, i) -> x.type(0, i), BAD, 0, 9, -1);
        wrong("person p", (x, i) -> x.person(i, 0), BAD, 3, 4, -1);
        wrong("person what", (x, i) -> x.person(0, i), BAD, 3, -1);
        wrong("thing t", (x, i) -> x.thing(i, 0), BAD, 5, 8, -1);
        wrong("thing what", (x, i) -> x.thing(0, i), BAD, 4, -1);
        wrong("count what", (x, i) -> x.count(i), BAD, 7, -1);
    }

    private static void dayPlaces() {
        wrong("lifted t", (x, i) -> x.lifted(1, i, 2), BAD, 5, 8, -1);
        wrong("lifted room", (x, i) -> x.lifted(1, 0, i), BAD, 5, 6, -1);
        wrong("tied p", (x, i) -> x.tied(i, 24), BAD, 3, 4, -1);
        wrong("untied t", (x, i) -> x.untied(i), BAD, 5, 8, -1);
        wrong("dropped p", (x, i) -> x.dropped(i), BAD, 3, 4, -1);
    }

    private static void daySets() {
        wrong("lifted people", (x, i) -> x.lifted(i, 0, 2), BAD, 8, 9, 15, 16, -1, -8);
        wrong("tied things", (x, i) -> x.tied(0, i), BAD, 0, 1, 2, 4, 8, 16, 32, 33, 63, 64, 128, 256, -1, -32);
    }

    private static void askPlaces() {
        wrong("fewest what", (x, i) -> x.fewest(i), BAD, 2, -1);
        wrong("due what", (x, i) -> x.due(i), BAD, 2, -1);
        wrong("moved image, bits", (x, i) -> x.moved(i, 0), BAD, 2, -1);
        wrong("moved image, ways", (x, i) -> x.moved(i, 1), BAD, 2, -1);
        wrong("moved what", (x, i) -> x.moved(0, i), BAD, 2, -1);
        wrong("moved what", (x, i) -> x.moved(1, i), BAD, 2, -1);
        wrong("chain room", (x, i) -> x.chain(i, 1), BAD, 5, 6, -1);
        wrong("chain k", (x, i) -> x.chain(0, i), BAD, 0, 10, -1);
    }

    private static void kindPlaces() {
        wrong("rate kind", (x, i) -> x.rate(i, 0), NO, 6, -1);
        wrong("rate p", (x, i) -> x.rate(0, i), NO, 3, 4, -1);
        wrong("rate p, up", (x, i) -> x.rate(4, i), NO, 3, 4, -1);
        wrong("keep image", (x, i) -> x.keep(i), BAD, 2, -1);
        wrong("back image", (x, i) -> x.back(i), BAD, 2, -1);
    }

    private static void everyPlaceWrong() {
        wrong("person", (x, i) -> x.person(i, i), BAD, -1);
        wrong("thing", (x, i) -> x.thing(i, i), BAD, -1);
        wrong("lifted", (x, i) -> x.lifted(i, i, i), BAD, -1);
        wrong("tied", (x, i) -> x.tied(i, i), BAD, -1);
        wrong("moved", (x, i) -> x.moved(i, i), BAD, -1);
        wrong("chain", (x, i) -> x.chain(i, i), BAD, -1);
        wrong("rate", (x, i) -> x.rate(i, i), NO, -1);
    }

    /** One person with none LEFT; things 0 and 1 tied in room 0, thing 2 in room 1; no IMAGE kept. */
    private static FiveThings spent() {
        FiveThings x = Check.told("rooms 2;person 1 0;thing 0 1;thing 0 1;thing 1 1;");
        x.tied(0, 3);
        return x;
    }

    private static void bad(String what, Edge.Call call) {
        Edge.unchanged("BAD before STATE: " + what, RefusedTest::spent, call, BAD);
    }

    private static void badBeforeState() {
        bad("no THING, though none LEFT", x -> x.lifted(1, 3, 1));
        bad("no ROOM, though none LEFT", x -> x.lifted(1, 0, 2));
        bad("a bit of nobody, though it is there", x -> x.lifted(3, 0, 0));
        bad("a bit of nobody, though not as many", x -> x.lifted(2, 0, 1));
        bad("no THING, though no bits", x -> x.lifted(0, 3, 1));
        bad("nobody, though one is tied", x -> x.tied(1, 3));
        bad("one alone, though none LEFT", x -> x.tied(0, 4));
        bad("one alone, though it is tied", x -> x.tied(0, 1));
        bad("a bit of none, though unlike ROOMS", x -> x.tied(0, 13));
        bad("no THING to untie", x -> x.untied(3));
        bad("nobody drops", x -> x.dropped(1));
        bad("no IMAGE", x -> x.moved(2, 0));
        bad("no such what, though not kept", x -> x.moved(0, 2));
        bad("no IMAGE to go back to", x -> x.back(2));
    }

    private static void badBeforeFull() {
        for (int had = 292; had <= 300; had++) {
            String text = " ".repeat(had);
            Edge.unchanged("BAD before FULL", () -> Edge.busy(text), x -> x.type(59, 9), BAD);
            Edge.unchanged("BAD before FULL", () -> Edge.busy(text), x -> x.type(59, 0), BAD);
            if (had > 292) {
                Edge.unchanged("FULL", () -> Edge.busy(text), x -> x.type(59, 8), FULL);
            }
        }
    }

    private static void state(String what, Edge.Call call) {
        Edge.unchanged("STATE: " + what, RefusedTest::spent, call, STATE);
    }

    private static void stateAlone() {
        state("none LEFT", x -> x.lifted(1, 0, 1));
        state("no bits", x -> x.lifted(0, 0, 1));
        state("it is there", x -> x.lifted(1, 2, 1));
        state("none LEFT to tie", x -> x.tied(0, 3));
        state("unlike ROOMS", x -> x.tied(0, 7));
        state("it is not tied", x -> x.untied(2));
        state("none LEFT to drop", x -> x.dropped(0));
        state("not kept", x -> x.moved(0, 0));
        state("not kept", x -> x.moved(1, 1));
        state("not kept", x -> x.back(0));
        state("not kept", x -> x.back(1));
    }
}
