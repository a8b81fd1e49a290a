/** The edges that the document names for kinds and images: its section 4, promises 20 to 22 and 24. */
public final class KindEdgeTest {
    private static final int BAD = FiveThings.BAD, STATE = FiveThings.STATE, NO = FiveThings.NO;
    private static final long[] BODIES = {1, 11, 101, 1011, 10101, 100001};

    public static void main(String[] args) {
        constants();
        sixKinds();
        ratesOfEachOne();
        ratesBelowZero();
        ratesWithNoneLeft();
        theMostOfEachKind();
        rateRefused();
        rateChangesTheTraceAlone();
        traceIsZeroAtFirst();
        traceOfEachBody();
        traceOutlivesAll();
        imagesNoneAndOne();
        imagesNotKept();
        imagesAreOfTheirOwn();
        anImageKeepsNow();
        anImageKeepsNothingElse();
        keptAgain();
        backAgainAndAgain();
        imageOfAnImage();
        imagesAreGone();
        aFaultLeavesImages();
        theLastCall();
        Check.end();
    }

    private static void same(String what, long got, long due) {
        Check.same(what, got, due);
    }

    private static void constants() {
        same("BAD", BAD, -1);
        same("STATE", STATE, -2);
        same("FULL", FiveThings.FULL, -3);
        same("NONE", FiveThings.NONE, -9);
        same("NO", NO, -1000000);
    }

    /** Person 2: LIFTS 7, PRICE 4, LEFT 5, on DAY 3. */
    private static FiveThings rated() {
        FiveThings x = Check.told("person 9 0;person 1 9;person 7 4;person 2 1;");
        x.slept();
        x.slept();
        x.slept();
        x.dropped(2);
        x.dropped(2);
        return x;
    }

    private static void sixKinds() {
        String says = "0 PERSON; 1 PORTER, 2 THIEF, 5 CHILD; 3 LAWYER; 4 MAID";
        int[] due = {NO, 5, 5 + 7, 5 - 4, 2 * (5 + 7), 5 - 4 + 2, 5 + 3, NO};
        for (int kind = -1; kind <= 6; kind++) {
            same(says + " kind " + kind, rated().rate(kind, 2), due[kind + 1]);
        }
    }

    private static void ratesOfEachOne() {
        String says = "RATE of one as if of a KIND";
        int[][] due = {{9, 18, 9, 36, 9, 12}, {1, 2, -8, 4, -7, 4}, {5, 12, 1, 24, 3, 8}, {2, 4, 1, 8, 4, 5}};
        FiveThings x = rated();
        for (int p = 0; p < 4; p++) {
            for (int kind = 0; kind < 6; kind++) {
                same(says + " " + kind + " of " + p, x.rate(kind, p), due[p][kind]);
            }
        }
    }

    private static void ratesBelowZero() {
        String says = "What none is, where a number may be below 0";
        FiveThings x = Check.told("person 1 9;person 1 9;");
        x.dropped(0);
        same(says + " THIEF", x.rate(2, 0), -9);
        same(says + " MAID", x.rate(4, 0), -9);
        same(says + " MAID, its number", x.rate(4, 1), -7);
        same(says + " THIEF", x.rate(2, 1), -8);
        same(says + " nobody", x.rate(2, 2), NO);
        FiveThings y = Check.told("person 8 9;");
        same(says + " a rate of -1 is not BAD", y.rate(2, 0), -1);
        same(says + " it was traced", y.trace(), 101);
    }

    private static void ratesWithNoneLeft() {
        String says = "PERSON what is LEFT (none)";
        FiveThings x = Check.told("person 1 0;");
        x.dropped(0);
        int[] due = {0, 1, 0, 2, 0, 0};
        for (int kind = 0; kind < 6; kind++) {
            same(says + " kind " + kind, x.rate(kind, 0), due[kind]);
        }
    }

    private static void theMostOfEachKind() {
        String says = "the most: nine LIFTS, PRICE 0, number 3, DAY 99";
        FiveThings x = Check.told(Edge.times(4, "person 9 0;"));
        for (int day = 0; day < 99; day++) {
            x.slept();
        }
        int[] due = {9, 18, 9, 36, 12, 108};
        for (int kind = 0; kind < 6; kind++) {
            same(says + " kind " + kind, x.rate(kind, 3), due[kind]);
        }
    }

    private static void rateRefused() {
        String says = "NO: BAD";
        int[] wrong = {-1, 6, 7};
        for (int kind : wrong) {
            Edge.unchanged(says + " kind " + kind, Edge::busy, x -> x.rate(kind, 0), NO);
        }
        for (int kind = 0; kind < 6; kind++) {
            int of = kind;
            Edge.unchanged(says + " nobody", Edge::busy, x -> x.rate(of, 3), NO);
            Edge.unchanged(says + " nobody", Edge::busy, x -> x.rate(of, -1), NO);
            Edge.unchanged(says + " nobody at all", FiveThings::new, x -> x.rate(of, 0), NO);
        }
        Edge.unchanged(says + " both", Edge::busy, x -> x.rate(6, 3), NO);
        same(says + " the last is one", Edge.people(4).rate(0, 3), 9);
        same(says + " one more is not", Edge.people(4).rate(0, 4), NO);
    }

    private static void rateChangesTheTraceAlone() {
        for (int kind = 0; kind < 6; kind++) {
            FiveThings asked = Edge.busy();
            FiveThings spared = Edge.busy();
            asked.rate(kind, 0);
            String trace = "trace = ";
            String due = Edge.all(spared).replace(trace + 10101, trace + (10101 + BODIES[kind]));
            Check.alike("rate changes nothing but THE TRACE", Edge.all(asked), due);
        }
    }

    private static void traceIsZeroAtFirst() {
        String says = "THE TRACE, 0 at first";
        FiveThings x = new FiveThings();
        same(says, x.trace(), 0);
        same(says + " asking adds nothing", x.trace(), 0);
        x.rate(0, 0);
        x.rate(5, -1);
        same(says + " nobody adds nothing", x.trace(), 0);
    }

    private static void traceOfEachBody() {
        String says = "numbers in brackets are added to THE TRACE as often as rate() asks that body";
        for (int kind = 0; kind < 6; kind++) {
            FiveThings x = rated();
            x.rate(kind, 2);
            same(says + " once, kind " + kind, x.trace(), BODIES[kind]);
            x.rate(kind, 0);
            same(says + " twice, kind " + kind, x.trace(), 2 * BODIES[kind]);
            for (int i = 0; i < 470; i++) {
                x.rate(kind, i & 3);
            }
            same(says + " often, kind " + kind, x.trace(), 472 * BODIES[kind]);
        }
    }

    private static void traceOutlivesAll() {
        String says = "THE TRACE is no part of NOW, of an IMAGE or of what a text tells";
        FiveThings x = rated();
        x.keep(0);
        x.rate(3, 2);
        x.slept();
        x.back(0);
        same(says, x.trace(), 1011);
        x.clear();
        x.house();
        same(says, x.trace(), 1011);
    }

    private static void imagesNoneAndOne() {
        String says = "IMAGES 0, 1";
        for (int image = 0; image <= 1; image++) {
            FiveThings x = rated();
            same(says + " kept", x.keep(image), 3);
            same(says + " back", x.back(image), 3);
        }
        int[] wrong = {-1, 2, 3};
        for (int image : wrong) {
            Edge.unchanged(says + " BAD", Edge::busy, x -> x.keep(image), BAD);
            Edge.unchanged(says + " BAD", Edge::busy, x -> x.back(image), BAD);
            Edge.unchanged(says + " BAD before STATE", FiveThings::new, x -> x.back(image), BAD);
            Edge.unchanged(says + " BAD", FiveThings::new, x -> x.keep(image), BAD);
        }
    }

    private static FiveThings oneKept(int image) {
        FiveThings x = rated();
        x.keep(image);
        x.slept();
        return x;
    }

    private static void imagesNotKept() {
        String says = "STATE: none was kept";
        for (int image = 0; image <= 1; image++) {
            int one = image;
            Edge.unchanged(says, FiveThings::new, x -> x.back(one), STATE);
            Edge.unchanged(says + " but the other", () -> oneKept(1 - one), x -> x.back(one), STATE);
        }
    }

    private static void imagesAreOfTheirOwn() {
        String says = "An IMAGE is kept: the DAY; each by itself";
        FiveThings x = new FiveThings();
        same(says, x.keep(0), 0);
        x.slept();
        same(says, x.keep(1), 1);
        x.slept();
        same(says, x.back(0), 0);
        same(says, x.back(1), 1);
        same(says, x.back(0), 0);
    }

    private static void anImageKeepsNow() {
        String says = "keep NOW (where THINGS are, BUNDLES, what is LEFT, the DAY)";
        for (int image = 0; image <= 1; image++) {
            FiveThings x = Check.told("person 5 1;person 5 1;thing 0 1;thing 1 2;thing 1 1;thing 1 1;");
            x.slept();
            x.tied(0, 12);
            x.lifted(1, 0, 3);
            x.dropped(1);
            x.keep(image);
            x.slept();
            x.untied(2);
            x.tied(1, 6);
            x.lifted(3, 1, 0);
            x.lifted(1, 0, 2);
            same(says + " the DAY", x.back(image), 1);
            same(says + " the DAY", x.count(5), 1);
            int[] rooms = {3, 1, 1, 1};
            int[] bundles = {FiveThings.NONE, FiveThings.NONE, 2, 2};
            for (int t = 0; t < 4; t++) {
                same(says + " where", x.thing(t, 0), rooms[t]);
                same(says + " BUNDLES", x.thing(t, 3), bundles[t]);
            }
            same(says + " BUNDLES", x.count(4), 1);
            same(says + " LEFT", x.person(0, 2), 3);
            same(says + " LEFT", x.person(1, 2), 4);
            same(says + " it is lifted as a BUNDLE", x.lifted(1, 3, 0), 2);
        }
    }

    private static void anImageKeepsNothingElse() {
        String says = "nothing else";
        FiveThings x = rated();
        Check.type(x, "rooms ");
        x.keep(0);
        x.rate(0, 0);
        Check.type(x, "6;");
        x.back(0);
        same(says + " not THE TEXT", x.count(6), 8);
        same(says + " not THE TRACE", x.trace(), 1);
        same(says + " not THE TEXT", x.house(), 1);
        FiveThings y = rated();
        y.keep(0);
        y.keep(1);
        y.slept();
        y.keep(1);
        y.back(0);
        same(says + " not the other IMAGE", y.back(1), 4);
    }

    private static void keptAgain() {
        String says = "An IMAGE is kept (again: the later one)";
        FiveThings x = rated();
        same(says, x.keep(1), 3);
        x.slept();
        same(says, x.keep(1), 4);
        x.slept();
        same(says, x.back(1), 4);
        same(says, x.person(2, 2), 7);
        FiveThings once = oneKept(0);
        FiveThings twice = oneKept(0);
        once.keep(1);
        twice.keep(1);
        twice.keep(1);
        Check.alike(says + " the same", Edge.all(twice), Edge.all(once));
    }

    private static void backAgainAndAgain() {
        String says = "All of that becomes as an IMAGE has it: the DAY";
        FiveThings x = rated();
        x.keep(0);
        for (int i = 0; i < 5; i++) {
            same(says + " spent", x.dropped(2), 4);
            x.slept();
            same(says, x.back(0), 3);
            same(says + " the IMAGE stays as it was", x.person(2, 2), 5);
        }
        FiveThings y = rated();
        y.keep(0);
        FiveThings z = rated();
        z.keep(0);
        z.back(0);
        Check.alike(says + " at once", Edge.all(z), Edge.all(y));
    }

    private static void imageOfAnImage() {
        String says = "an IMAGE of what came back";
        FiveThings x = rated();
        x.keep(0);
        x.slept();
        x.back(0);
        same(says, x.keep(1), 3);
        x.slept();
        same(says, x.keep(0), 4);
        same(says, x.back(1), 3);
        same(says, x.back(0), 4);
    }

    private static void imagesAreGone() {
        String says = "Read anew: .. IMAGES are gone";
        FiveThings x = rated();
        x.keep(0);
        x.keep(1);
        Check.type(x, "person 1 1;");
        x.house();
        for (int image = 0; image <= 1; image++) {
            same(says, x.back(image), STATE);
            same(says, x.moved(image, 0), STATE);
        }
        same(says + " and can be kept anew", x.keep(1), 0);
        same(says + " and can be kept anew", x.back(1), 0);
        same(says + " the other not", x.back(0), STATE);
    }

    private static void aFaultLeavesImages() {
        String says = "-10 less FAULT: nothing changes, IMAGES neither";
        FiveThings x = rated();
        x.keep(0);
        x.slept();
        Check.type(x, "person 1 1;rooms 2;");
        same(says, x.house(), -21);
        same(says, x.moved(0, 0), 0);
        same(says, x.back(0), 3);
        same(says, x.back(1), STATE);
    }

    private static void theLastCall() {
        String says = "at most 512 calls after it has been made";
        FiveThings x = new FiveThings();
        for (int i = 0; i < 255; i++) {
            same(says, x.type(0, 8), 8);
            same(says, x.clear(), 8);
        }
        same(says + " the 511th", x.type(0, 8), 8);
        same(says + " the 512th", x.count(6), 8);
        // Three calls tell the house.
        FiveThings y = Check.told("person 9 0;");
        for (int i = 0; i < 508; i++) {
            y.rate(5, 0);
        }
        same(says + " the 512th", y.trace(), 508 * 100001L);
    }
}
