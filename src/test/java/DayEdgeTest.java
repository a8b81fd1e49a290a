import java.util.function.Supplier;

/** The edges that the document names for a day: its section 2, promises 7 to 11. */
public final class DayEdgeTest {
    private static final int BAD = FiveThings.BAD, STATE = FiveThings.STATE, NONE = FiveThings.NONE;

    public static void main(String[] args) {
        leftAllAtFirst();
        justAsManyAsHands();
        oneLeftAtLeast();
        eachHasOneLeftLess();
        toAnotherRoom();
        bitsOfNobody();
        liftedBad();
        bundleIsLiftedAsOne();
        bundleHandsOfWhoNeedsMost();
        twoThingsOrMore();
        bitsOfNone();
        tiedByNobody();
        ofOneRoom();
        noneOfThemTied();
        tyingIsOneLift();
        untiedByAnyOfIt();
        untiedRefused();
        untyingSpendsNothing();
        droppedToNone();
        sleptAllAgain();
        sleptTo99();
        Check.end();
    }

    private static void same(String what, long got, long due) {
        Check.same(what, got, due);
    }

    /** Twins are made behind the same calls, and the call is asked of one of them. */
    private static void refused(String says, Supplier<FiveThings> scene, Edge.Call call, int due) {
        Edge.unchanged(says, scene, call, due);
    }

    private static void leftAllAtFirst() {
        String says = "LEFT: LIFTS that one has left today (all at first)";
        FiveThings x = Check.told("person 1 0;person 9 0;person 4 0;person 2 0;");
        int[] due = {1, 9, 4, 2};
        for (int p = 0; p < 4; p++) {
            same(says, x.person(p, 2), due[p]);
        }
    }

    private static FiveThings fourAnd(int hands) {
        return Check.told(Edge.times(4, "person 2 0;") + "thing 0 1;thing 0 " + hands + ";task 1 1;");
    }

    private static void justAsManyAsHands() {
        String says = "just as many as its HANDS";
        for (int hands = 1; hands <= 3; hands++) {
            int need = hands;
            for (int set = 0; set < 16; set++) {
                int who = set;
                String what = says + " " + hands + " by " + set;
                if (Integer.bitCount(set) == hands) {
                    FiveThings x = fourAnd(hands);
                    same(what, x.lifted(set, 1, 1), 1);
                    same(what, x.thing(1, 0), 1);
                    same(what + " the other stays", x.thing(0, 0), 0);
                } else {
                    refused(what, () -> fourAnd(need), x -> x.lifted(who, 1, 1), STATE);
                }
            }
        }
    }

    private static FiveThings oneWithNone(int hands, int tired) {
        FiveThings x = fourAnd(hands);
        for (int p = 0; p < 4; p++) {
            x.dropped(p);
        }
        x.dropped(tired);
        return x;
    }

    private static void oneLeftAtLeast() {
        String says = "each with one LEFT at least";
        for (int hands = 1; hands <= 3; hands++) {
            int need = hands;
            int set = (1 << hands) - 1;
            FiveThings x = oneWithNone(hands, 3);
            same(says + " just one", x.lifted(set, 1, 2), 1);
            same(says + " then none", x.lifted(set, 1, 3), STATE);
            for (int p = 0; p < hands; p++) {
                int tired = p;
                refused(says + " but one has none LEFT: " + p, () -> oneWithNone(need, tired),
                        y -> y.lifted(set, 1, 2), STATE);
            }
        }
    }

    private static void eachHasOneLeftLess() {
        String says = "each has one LEFT less";
        for (int set = 1; set < 16; set++) {
            int hands = Integer.bitCount(set);
            if (hands <= 3) {
                FiveThings x = fourAnd(hands);
                x.lifted(set, 1, 3);
                for (int p = 0; p < 4; p++) {
                    same(says + " " + set, x.person(p, 2), 2 - (set >> p & 1));
                    same(says + " LIFTS a day stay", x.person(p, 0), 2);
                }
                same(says + " the DAY stays", x.count(5), 0);
            }
        }
    }

    private static FiveThings inRoom(int room) {
        return Check.told("rooms 6;person 9 0;thing " + room + " 1;");
    }

    private static void toAnotherRoom() {
        String says = "carry a THING to another ROOM";
        for (int from = 0; from < 6; from++) {
            int here = from;
            for (int to = 0; to < 6; to++) {
                if (to != from) {
                    FiveThings x = inRoom(from);
                    same(says, x.lifted(1, 0, to), 1);
                    same(says, x.thing(0, 0), to);
                    same(says + " and back", x.lifted(1, 0, from), 1);
                }
            }
            refused("it is there", () -> inRoom(here), x -> x.lifted(1, 0, here), STATE);
            refused("no ROOM", () -> inRoom(here), x -> x.lifted(1, 0, 6), BAD);
            refused("no ROOM", () -> inRoom(here), x -> x.lifted(1, 0, -1), BAD);
        }
        FiveThings y = inRoom(0);
        y.lifted(1, 0, 5);
        same("it is there, where it was carried", y.lifted(1, 0, 5), STATE);
        same("it is not there any more", y.lifted(1, 0, 0), 1);
    }

    private static void bitsOfNobody() {
        String says = "BAD (bits of nobody, too)";
        for (int n = 0; n <= 4; n++) {
            int people = n;
            int[] wrong = {1 << n, 1 << n | 1 << n + 1, (1 << n + 1) - 1, 1 << 30, Integer.MIN_VALUE, -1,
                Integer.MIN_VALUE | 1, 16, 32};
            for (int set : wrong) {
                refused(says + " " + n + " by " + set, () -> Edge.people(people), x -> x.lifted(set, 0, 1), BAD);
            }
            if (n > 0) {
                same(says + " the last of " + n, Edge.people(n).lifted(1 << n - 1, 0, 1), 1);
            }
            refused("no bits: not just as many as HANDS", () -> Edge.people(people), x -> x.lifted(0, 0, 1), STATE);
        }
    }

    private static void liftedBad() {
        String says = "lifted: BAD";
        refused(says + " thing 8", () -> Edge.things(8), x -> x.lifted(1, 8, 1), BAD);
        same(says + " thing 7 is one", Edge.things(8).lifted(1, 7, 1), 1);
        refused(says + " thing -1", () -> Edge.things(8), x -> x.lifted(1, -1, 1), BAD);
        refused(says + " room 4", () -> Edge.things(8), x -> x.lifted(1, 0, 4), BAD);
        refused(says + " before it is there", () -> Edge.things(1), x -> x.lifted(2, 0, 0), BAD);
        refused(says + " before not as many", () -> Edge.things(1), x -> x.lifted(3, 0, 1), BAD);
        refused(says + " before not as many", () -> Edge.things(1), x -> x.lifted(0, 1, 1), BAD);
        refused(says + " before not as many", () -> Edge.things(1), x -> x.lifted(0, 0, 4), BAD);
        refused(says + " before none LEFT", DayEdgeTest::tired, x -> x.lifted(1, 2, 1), BAD);
        refused(says + " before none LEFT", DayEdgeTest::tired, x -> x.lifted(1, 0, 4), BAD);
        refused("STATE then", DayEdgeTest::tired, x -> x.lifted(1, 0, 1), STATE);
    }

    /** One person with none LEFT, two things. */
    private static FiveThings tired() {
        FiveThings x = Check.told("person 1 0;thing 0 1;thing 0 1;");
        x.dropped(0);
        return x;
    }

    private static void bundleIsLiftedAsOne() {
        String says = "whoever lifts one of them lifts all";
        for (int set = 0; set < 256; set++) {
            int size = Integer.bitCount(set);
            for (int t = 0; t < 8 && size >= 2; t++) {
                if ((set >> t & 1) == 1) {
                    FiveThings x = Edge.things(8);
                    x.tied(0, set);
                    same(says + " " + set + " by " + t, x.lifted(1, t, 3), size);
                    int moved = 0;
                    for (int other = 0; other < 8; other++) {
                        moved |= x.thing(other, 0) == 3 ? 1 << other : 0;
                    }
                    same(says + " and no other " + set, moved, set);
                    same(says + " by one LIFT", x.person(0, 2), 7);
                    same(says + " it stays tied", x.count(4), 1);
                }
            }
        }
        FiveThings y = Edge.things(8);
        y.tied(0, 15);
        y.tied(0, 240);
        same(says + " not another BUNDLE", y.lifted(1, 6, 2), 4);
        same(says + " not another BUNDLE", y.thing(3, 0), 0);
        same(says + " it is there by another of it", y.lifted(1, 4, 2), STATE);
        y.untied(5);
        same(says + " untied, each by itself", y.lifted(1, 6, 1), 1);
        same(says + " untied, each by itself", y.thing(7, 0), 2);
    }

    private static FiveThings tiedHands(int first, int second) {
        FiveThings x = Check.told(Edge.times(4, "person 9 0;") + "thing 0 " + first + ";thing 0 " + second + ";");
        x.tied(3, 3);
        return x;
    }

    private static void bundleHandsOfWhoNeedsMost() {
        String says = "with as many HANDS as one of them needs most";
        for (int first = 1; first <= 3; first++) {
            for (int second = 1; second <= 3; second++) {
                int a = first;
                int b = second;
                int most = Math.max(a, b);
                for (int n = 0; n <= 4; n++) {
                    int set = (1 << n) - 1;
                    String what = says + " " + a + ", " + b + " by " + n;
                    if (n == most) {
                        same(what, tiedHands(a, b).lifted(set, 0, 1), 2);
                        same(what, tiedHands(a, b).lifted(set, 1, 1), 2);
                    } else {
                        refused(what, () -> tiedHands(a, b), x -> x.lifted(set, 0, 1), STATE);
                        refused(what, () -> tiedHands(a, b), x -> x.lifted(set, 1, 1), STATE);
                    }
                }
                same("HANDS of each stay", tiedHands(a, b).thing(0, 1), a);
                same("HANDS of each stay", tiedHands(a, b).thing(1, 1), b);
            }
        }
    }

    private static int least(int set) {
        int t = 0;
        while ((set >> t & 1) == 0) {
            t++;
        }
        return t;
    }

    private static void twoThingsOrMore() {
        String says = "ties two THINGS or more; a BUNDLE (its number: its least THING)";
        for (int set = 0; set < 256; set++) {
            int things = set;
            if (Integer.bitCount(set) < 2) {
                refused("BAD (fewer than two, too) " + set, () -> Edge.things(8), x -> x.tied(0, things), BAD);
                continue;
            }
            FiveThings x = Edge.things(8);
            same(says + " " + set, x.tied(0, set), least(set));
            for (int t = 0; t < 8; t++) {
                same(says + " " + set + " of " + t, x.thing(t, 3), (set >> t & 1) == 1 ? least(set) : NONE);
                same(says + " it stays where it is", x.thing(t, 0), 0);
            }
            same(says + " one BUNDLE", x.count(4), 1);
        }
        refused("BAD (fewer than two, too) of one thing", () -> Edge.things(1), x -> x.tied(0, 1), BAD);
        refused("BAD (fewer than two, too) of no thing", () -> Edge.things(0), x -> x.tied(0, 0), BAD);
    }

    private static void bitsOfNone() {
        String says = "BAD (bits of none, too)";
        for (int n = 0; n <= 8; n++) {
            int things = n;
            int[] wrong = {1 << n, 1 << n | 1 << n + 1, (1 << n + 1) - 1, 1 << 30 | 3, Integer.MIN_VALUE,
                Integer.MIN_VALUE | 3, -1, -4, 256 | 3, 768};
            for (int set : wrong) {
                refused(says + " " + n + ", " + set, () -> Edge.things(things), x -> x.tied(0, set), BAD);
            }
            if (n >= 2) {
                same(says + " the last two of " + n, Edge.things(n).tied(0, 3 << n - 2), n - 2);
            }
        }
    }

    private static void tiedByNobody() {
        String says = "tied: BAD";
        for (int n = 0; n <= 4; n++) {
            int people = n;
            refused(says + " nobody of " + n, () -> Edge.people(people), x -> x.tied(people, 3), BAD);
            refused(says + " below", () -> Edge.people(people), x -> x.tied(-1, 3), BAD);
            if (n > 0) {
                same(says + " the last of " + n, Edge.people(n).tied(n - 1, 3), 0);
            }
        }
        refused(says + " before none LEFT", DayEdgeTest::tired, x -> x.tied(0, 7), BAD);
        refused(says + " before none LEFT", DayEdgeTest::tired, x -> x.tied(0, 1), BAD);
        refused(says + " before unlike ROOMS", DayEdgeTest::apart, x -> x.tied(1, 3), BAD);
        refused(says + " before one is tied", DayEdgeTest::twoTied, x -> x.tied(1, 6), BAD);
        refused(says + " before one is tied", DayEdgeTest::twoTied, x -> x.tied(0, 1), BAD);
        refused(says + " before one is tied", DayEdgeTest::twoTied, x -> x.tied(0, 9), BAD);
    }

    private static FiveThings apart() {
        return Check.told("person 9 0;thing 0 1;thing 1 1;");
    }

    /** Of three things two are tied. */
    private static FiveThings twoTied() {
        FiveThings x = Edge.things(3);
        x.tied(0, 6);
        return x;
    }

    private static FiveThings oneElsewhere(int t) {
        FiveThings x = Edge.things(8);
        x.lifted(1, t, 2);
        return x;
    }

    private static void ofOneRoom() {
        String says = "THINGS or more of one ROOM";
        for (int t = 0; t < 8; t++) {
            int other = t;
            refused("not all in one ROOM " + t, () -> oneElsewhere(other), x -> x.tied(0, 255), STATE);
            refused("not all in one ROOM " + t, () -> oneElsewhere(other),
                    x -> x.tied(0, 1 << other | 1 << (other + 1) % 8), STATE);
            same(says + " the others", oneElsewhere(t).tied(0, 255 & ~(1 << t)), t == 0 ? 1 : 0);
        }
        FiveThings y = oneElsewhere(3);
        y.lifted(1, 5, 2);
        same(says + " where they were carried", y.tied(0, 40), 3);
        refused("not all in one ROOM", DayEdgeTest::apart, x -> x.tied(0, 3), STATE);
    }

    private static void noneOfThemTied() {
        String says = "one is tied";
        refused(says + " one of two", DayEdgeTest::twoTied, x -> x.tied(0, 3), STATE);
        refused(says + " one of two", DayEdgeTest::twoTied, x -> x.tied(0, 5), STATE);
        refused(says + " both", DayEdgeTest::twoTied, x -> x.tied(0, 6), STATE);
        refused(says + " all", DayEdgeTest::twoTied, x -> x.tied(0, 7), STATE);
        FiveThings x = twoTied();
        x.untied(2);
        same(says + " no more", x.tied(0, 7), 0);
    }

    private static void tyingIsOneLift() {
        String says = "that is one LIFT";
        for (int n = 2; n <= 8; n++) {
            FiveThings x = Check.told("person 5 0;person 1 0;person 1 0;" + Edge.times(n, "thing 0 3;"));
            same(says, x.tied(0, (1 << n) - 1), 0);
            same(says + " of " + n, x.person(0, 2), 4);
            same(says + " of nobody else", x.person(1, 2), 1);
            x.untied(0);
            same(says + " with just one LEFT", x.tied(1, (1 << n) - 1), 0);
            same(says + " with just one LEFT", x.person(1, 2), 0);
        }
        refused("none LEFT", DayEdgeTest::tired, x -> x.tied(0, 3), STATE);
    }

    private static FiveThings twoBundles() {
        FiveThings x = Edge.things(8);
        x.tied(0, 0b10110010);
        x.tied(0, 0b01001000);
        x.lifted(1, 3, 2);
        return x;
    }

    private static void untiedByAnyOfIt() {
        String says = "UNTIED, by a THING of it: how many THINGS it had";
        for (int t = 0; t < 8; t++) {
            int one = t;
            if ((0b10110010 >> t & 1) == 1) {
                FiveThings x = twoBundles();
                same(says + " " + t, x.untied(t), 4);
                same(says + " it is one no more", x.count(4), 1);
                for (int other = 0; other < 8; other++) {
                    same(says + " the other stays", x.thing(other, 3), other == 3 || other == 6 ? 3 : NONE);
                    same(says + " all stay where they are", x.thing(other, 0), other == 3 || other == 6 ? 2 : 0);
                }
            } else if ((0b01001000 >> t & 1) == 1) {
                same(says + " " + t, twoBundles().untied(t), 2);
            } else {
                refused("it is not tied " + t, DayEdgeTest::twoBundles, x -> x.untied(one), STATE);
            }
        }
        FiveThings y = Edge.things(8);
        y.tied(0, 255);
        same(says + " all", y.untied(7), 8);
        same(says + " none then", y.untied(7), STATE);
    }

    private static void untiedRefused() {
        String says = "untied: BAD; STATE: it is not tied";
        refused(says, () -> Edge.things(8), x -> x.untied(8), BAD);
        refused(says, () -> Edge.things(8), x -> x.untied(-1), BAD);
        refused(says, () -> Edge.things(0), x -> x.untied(0), BAD);
        refused(says, () -> Edge.things(8), x -> x.untied(7), STATE);
        refused(says, DayEdgeTest::twoTied, x -> x.untied(3), BAD);
        refused(says, DayEdgeTest::twoTied, x -> x.untied(0), STATE);
    }

    private static void untyingSpendsNothing() {
        String says = "UNTIED: nothing is spent";
        FiveThings x = Check.told("person 1 0;person 2 0;thing 0 1;thing 0 1;");
        x.tied(0, 3);
        same(says + " none LEFT is enough", x.untied(0), 2);
        same(says, x.person(0, 2), 0);
        same(says, x.person(1, 2), 2);
        same(says + " and nothing is given back", x.tied(0, 3), STATE);
        same(says + " tied anew", x.tied(1, 3), 0);
        same(says + " tied anew", x.person(1, 2), 1);
    }

    private static FiveThings dropped(int times) {
        FiveThings x = Check.told("person 9 3;person 1 3;thing 0 1;task 0 1;");
        for (int i = 0; i < times; i++) {
            x.dropped(0);
        }
        return x;
    }

    private static void droppedToNone() {
        String says = "DROPPED: one has one LEFT less";
        FiveThings x = dropped(0);
        for (int left = 8; left >= 0; left--) {
            same(says, x.dropped(0), left);
            same(says, x.person(0, 2), left);
        }
        same(says + " the other has all", x.person(1, 2), 1);
        same(says + " LIFTS a day stay", x.person(0, 0), 9);
        same(says + " no thing moves", x.thing(0, 0), 0);
        refused("none LEFT", () -> dropped(9), y -> y.dropped(0), STATE);
        refused("nobody", () -> dropped(9), y -> y.dropped(2), BAD);
        refused("nobody", () -> dropped(9), y -> y.dropped(-1), BAD);
        refused("nobody", () -> Edge.people(4), y -> y.dropped(4), BAD);
        same(says + " the last", Edge.people(4).dropped(3), 8);
        FiveThings z = dropped(9);
        z.slept();
        same(says + " the next DAY", z.dropped(0), 8);
    }

    private static void sleptAllAgain() {
        String says = "SLEPT: all have all LIFTS again, it is the next DAY";
        FiveThings x = Check.told("person 1 0;person 2 0;person 3 0;person 9 0;thing 0 3;thing 0 1;");
        x.tied(3, 3);
        x.lifted(7, 0, 2);
        x.dropped(1);
        same(says, x.slept(), 1);
        int[] due = {1, 2, 3, 9};
        for (int p = 0; p < 4; p++) {
            same(says, x.person(p, 2), due[p]);
        }
        same(says + " BUNDLES stay", x.count(4), 1);
        same(says + " ROOMS stay", x.thing(1, 0), 2);
        same(says + " nothing was spent", x.slept(), 2);
        same(says + " no more than all", x.person(3, 2), 9);
    }

    private static FiveThings onDay(int day) {
        FiveThings x = Check.told("person 3 0;thing 0 1;task 0 1;");
        x.keep(0);
        for (int i = 0; i < day; i++) {
            x.slept();
        }
        x.dropped(0);
        return x;
    }

    private static void sleptTo99() {
        String says = "the next DAY (0 at first, 99 at most)";
        FiveThings x = Check.told("person 3 0;");
        same(says, x.count(5), 0);
        for (int day = 1; day <= 99; day++) {
            same(says, x.slept(), day);
            same(says, x.count(5), day);
        }
        same("it is DAY 99", x.slept(), STATE);
        same("it is DAY 99", x.slept(), STATE);
        same("it is DAY 99", x.count(5), 99);
        refused("it is DAY 99", () -> onDay(99), FiveThings::slept, STATE);
        same(says + " the last night", onDay(98).slept(), 99);
        FiveThings y = onDay(99);
        same("an IMAGE's DAY", y.back(0), 0);
        same("an IMAGE's DAY", y.slept(), 1);
        FiveThings z = onDay(99);
        same("read anew", z.house(), 0);
        same("read anew: DAY 0", z.slept(), 1);
        FiveThings v = new FiveThings();
        for (int day = 1; day <= 99; day++) {
            v.slept();
        }
        same("it is DAY 99, with nobody there", v.slept(), STATE);
    }
}
