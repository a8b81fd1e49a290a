import java.util.Arrays;
import java.util.function.Supplier;

/** The edges that the document names for what can be done: its section 3, promises 12 to 19. */
public final class AskEdgeTest {
    private static final int BAD = FiveThings.BAD, STATE = FiveThings.STATE, NONE = FiveThings.NONE;

    public static void main(String[] args) {
        nothingIsChanged();
        whatIsDue();
        aBundleIsDue();
        barredBundles();
        aThingWithoutATaskGoesAnywhere();
        noneIfOneIsBarred();
        fewestOfNothing();
        fewestEachByItself();
        fewestTiedTogether();
        fewestOnlyAlike();
        fewestBundlesAreNotTied();
        newBundles();
        fewestAsksNobody();
        canWithJustEnough();
        canByUnlikePeople();
        canEachByItself();
        cheapLeastAndMost();
        cheapByWhatIsLeft();
        leastPeopleOfNone();
        leastPeopleFewestFirst();
        leastPeopleOfSeveralTheLeast();
        lostJustAsMany();
        lostIsForOneAlone();
        lostOfABundle();
        movedNoneAndAll();
        movedRefused();
        movedAgainstItsImage();
        waysJustEnough();
        waysAsksNoHandsNoBundles();
        chainGaps();
        chainRoundedUp();
        chainOfNothing();
        chainOfNobody();
        chainAsksLiftsADay();
        Check.end();
    }

    private static void same(String what, long got, long due) {
        Check.same(what, got, due);
    }

    /** Things 0 and 1 are tied, wanted in unlike rooms; thing 2 by itself could be done. */
    private static FiveThings barred() {
        FiveThings x = Check.told("person 9 2;thing 0 1;thing 0 1;thing 0 1;task 0 1;task 1 2;task 2 1;");
        x.tied(0, 3);
        return x;
    }

    private static void nothingIsChanged() {
        String says = "(Nothing is changed; ROOMS, HANDS, BUNDLES, LEFT as they are.)";
        unchangedAt(says + " busy", Edge::busy);
        unchangedAt(says + " barred", AskEdgeTest::barred);
        unchangedAt(says + " new", FiveThings::new);
    }

    private static void unchangedAt(String says, Supplier<FiveThings> scene) {
        FiveThings asked = scene.get();
        Edge.shown(asked);
        Check.alike(says, Edge.all(asked), Edge.all(scene.get()));
    }

    private static void whatIsDue() {
        String says = "DUE, if a TASK wants one of it elsewhere";
        same(says + " no TASK", Check.told("thing 0 1;").due(0), 0);
        same(says + " it is there", Check.told("thing 1 1;task 0 1;").due(0), 0);
        same(says + " elsewhere", Check.told("thing 0 1;task 0 1;").due(0), 1);
        same(says + " nothing at all", new FiveThings().due(0), 0);
        StringBuilder eight = new StringBuilder(Edge.times(8, "thing 0 1;"));
        for (int t = 0; t < 8; t++) {
            eight.append("task ").append(t).append(" 1;");
        }
        FiveThings x = Check.told("person 9 0;" + eight);
        for (int t = 0; t < 8; t++) {
            same(says + " all but " + t, x.due(0), 8 - t);
            x.lifted(1, t, 1);
        }
        same(says + " all are there", x.due(0), 0);
        x.lifted(1, 3, 2);
        same(says + " carried on", x.due(0), 1);
        same("due: BAD", x.due(2), BAD);
        same("due: BAD", x.due(-1), BAD);
        same("due: THINGS in BARRED BUNDLES: none", x.due(1), 0);
    }

    private static void aBundleIsDue() {
        String says = "A JOB: a THING that is not tied, or a BUNDLE";
        FiveThings x = Check.told("person 9 0;" + Edge.times(8, "thing 0 1;") + "task 7 1;task 6 1;");
        same(says + " two", x.due(0), 2);
        x.tied(0, 192);
        same(says + " as one", x.due(0), 1);
        x.untied(6);
        x.tied(0, 129);
        same(says + " one with one that wants nothing", x.due(0), 2);
        x.untied(0);
        x.tied(0, 255);
        same(says + " all as one", x.due(0), 1);
        x.lifted(1, 3, 1);
        same(says + " done", x.due(0), 0);
        x.untied(3);
        same(says + " done", x.due(0), 0);
    }

    private static void barredBundles() {
        String says = "BARRED: a BUNDLE of which TASKS want THINGS in unlike ROOMS";
        FiveThings x = barred();
        same(says, x.due(1), 3);
        same(says + " it is DUE", x.due(0), 2);
        x.lifted(1, 0, 1);
        same(says + " wherever it is", x.due(1), 3);
        same(says + " wherever it is", x.due(0), 2);
        x.untied(1);
        same(says + " untied", x.due(1), 0);
        FiveThings alike = Check.told("person 9 0;thing 0 1;thing 0 1;task 0 1;task 1 1;");
        alike.tied(0, 3);
        same(says + " alike", alike.due(1), 0);
        same("unlike, but not tied", Check.told("thing 0 1;thing 0 1;task 0 1;task 1 2;").due(1), 0);
        FiveThings here = Check.told("person 9 0;thing 0 1;thing 0 1;task 0 0;task 1 1;");
        here.tied(0, 3);
        same(says + " one is there", here.due(1), 3);
        FiveThings all = Check.told("person 9 0;" + Edge.times(8, "thing 0 1;") + "task 0 1;task 7 2;");
        all.tied(0, 255);
        same(says + " all of it", all.due(1), 255);
        FiveThings two = Check.told("person 9 0;" + Edge.times(8, "thing 0 1;") + "task 0 1;task 1 2;task 6 0;task 7 3;");
        two.tied(0, 3);
        two.tied(0, 12);
        two.tied(0, 192);
        same(says + " two of three", two.due(1), 195);
    }

    private static void aThingWithoutATaskGoesAnywhere() {
        String says = "(a THING without a TASK goes anywhere)";
        FiveThings x = Check.told("person 9 0;thing 0 1;thing 0 1;task 1 1;");
        x.tied(0, 3);
        same(says, x.due(1), 0);
        same(says, x.fewest(0), 1);
        same(says, x.can(), 1);
        FiveThings y = Check.told("person 9 0;thing 0 1;thing 0 1;thing 0 1;task 0 1;task 2 2;");
        y.tied(0, 7);
        same(says + " but the others don't", y.due(1), 7);
        FiveThings z = Check.told("person 9 0;thing 0 1;thing 0 1;");
        z.tied(0, 3);
        same(says + " none has a TASK", z.due(1), 0);
        same(says + " none has a TASK", z.due(0), 0);
    }

    private static void noneIfOneIsBarred() {
        String says = "FEWEST to LOST are NONE, if one is";
        Edge.unchanged(says, AskEdgeTest::barred, x -> x.fewest(0), NONE);
        Edge.unchanged(says, AskEdgeTest::barred, x -> x.fewest(1), NONE);
        Edge.unchanged(says, AskEdgeTest::barred, FiveThings::can, NONE);
        Edge.unchanged(says, AskEdgeTest::barred, FiveThings::cheap, NONE);
        Edge.unchanged(says, AskEdgeTest::barred, FiveThings::leastPeople, NONE);
        Edge.unchanged(says, AskEdgeTest::barred, FiveThings::lost, NONE);
        Edge.unchanged("BAD first", AskEdgeTest::barred, x -> x.fewest(2), BAD);
        Edge.unchanged("BAD first", AskEdgeTest::barred, x -> x.fewest(-1), BAD);
        FiveThings y = barred();
        same("CHAIN is told all the same", y.chain(0, 1), 1);
        y.keep(0);
        same("MOVED is told all the same", y.moved(0, 0), 0);
        same("WAYS are told all the same", y.moved(0, 1), 1);
        y.untied(0);
        same(says + " none is any more", y.fewest(0), 3);
        same(says + " none is any more", y.can(), 1);
        same(says + " none is any more", y.cheap(), 6);
        same(says + " none is any more", y.leastPeople(), 1);
        same(says + " none is any more", y.lost(), 0);
    }

    private static void fewest(String says, String text, int lifts, int bundles) {
        FiveThings x = Check.told(text);
        same(says + " FEWEST " + text, x.fewest(0), lifts);
        same(says + " NEW " + text, x.fewest(1), bundles);
    }

    /** So many things in room 0 that are wanted in room 1, with these hands. */
    private static String wanted(int... hands) {
        StringBuilder s = new StringBuilder();
        for (int h : hands) {
            s.append("thing 0 ").append(h).append(";");
        }
        for (int t = 0; t < hands.length; t++) {
            s.append("task ").append(t).append(" 1;");
        }
        return s.toString();
    }

    private static void fewestOfNothing() {
        String says = "all DUE JOBS (none)";
        fewest(says, "", 0, 0);
        fewest(says, "person 9 9;", 0, 0);
        fewest(says, "thing 0 3;thing 0 3;", 0, 0);
        fewest(says, "thing 1 3;thing 1 3;task 0 1;task 1 1;", 0, 0);
        Edge.unchanged("fewest: BAD", Edge::busy, x -> x.fewest(2), BAD);
        Edge.unchanged("fewest: BAD", Edge::busy, x -> x.fewest(-1), BAD);
    }

    private static void fewestEachByItself() {
        String says = "each by itself as many as its HANDS";
        for (int h = 1; h <= 3; h++) {
            fewest(says, wanted(h), h, 0);
        }
        fewest(says, "rooms 6;thing 0 3;thing 1 3;thing 2 3;thing 3 3;thing 4 3;thing 5 3;"
                + "task 0 1;task 1 2;task 2 3;task 3 4;task 4 5;task 5 0;", 18, 0);
    }

    /** By itself, or all as one: a LIFT to tie, and as many as one needs most. */
    private static void fewestTiedTogether() {
        String says = "first tied together (one LIFT) and then lifted as one";
        fewest(says, wanted(1, 1), 2, 0);
        fewest(says, wanted(1, 1, 1), 2, 1);
        fewest(says, wanted(2, 1), 3, 0);
        fewest(says, wanted(2, 1, 1), 3, 1);
        fewest(says, wanted(2, 2), 3, 1);
        fewest(says, wanted(3, 1), 4, 0);
        fewest(says, wanted(3, 1, 1), 4, 1);
        fewest(says, wanted(3, 2), 4, 1);
        fewest(says, wanted(3, 3), 4, 1);
        fewest(says, wanted(1, 1, 1, 1, 1, 1, 1, 1), 2, 1);
        fewest(says, wanted(3, 3, 3, 3, 3, 3, 3, 3), 4, 1);
    }

    private static void fewestOnlyAlike() {
        String says = "JOBS of one ROOM that are wanted in one ROOM";
        fewest(says, "thing 0 3;thing 0 3;task 0 1;task 1 2;", 6, 0);
        fewest(says, "thing 0 3;thing 1 3;task 0 2;task 1 2;", 6, 0);
        fewest(says, "thing 0 3;thing 1 3;task 0 1;task 1 0;", 6, 0);
        fewest(says, "thing 0 3;thing 0 3;thing 0 3;task 0 1;task 1 1;", 4, 1);
        fewest(says, "thing 0 3;thing 0 3;thing 1 3;thing 1 3;task 0 1;task 1 1;task 2 0;task 3 0;", 8, 2);
        fewest(says, "rooms 6;thing 0 2;thing 0 2;thing 5 2;thing 5 2;task 0 5;task 1 5;task 2 0;task 3 0;", 6, 2);
        fewest(says, "thing 0 2;thing 0 2;thing 0 2;thing 0 2;task 0 1;task 1 2;task 2 1;task 3 2;", 6, 2);
    }

    private static void fewestBundlesAreNotTied() {
        String says = "those that are not BUNDLES";
        FiveThings x = Check.told("person 9 0;" + wanted(3, 3, 3));
        same(says + " before", x.fewest(0), 4);
        x.tied(0, 3);
        same(says, x.fewest(0), 6);
        same(says + " NEW", x.fewest(1), 0);
        FiveThings y = Check.told("person 9 0;" + wanted(3, 3, 3, 3));
        y.tied(0, 3);
        y.tied(0, 12);
        same(says + " two", y.fewest(0), 6);
        same(says + " two, NEW", y.fewest(1), 0);
        FiveThings z = Check.told("person 9 0;" + wanted(3, 1, 2, 2));
        z.tied(0, 3);
        same(says + " the others are", z.fewest(0), 6);
        same(says + " the others are, NEW", z.fewest(1), 1);
        z.untied(0);
        z.tied(0, 15);
        same(says + " it is tied as it should be", z.fewest(0), 3);
        same(says + " it is tied as it should be", z.fewest(1), 0);
    }

    private static void newBundles() {
        String says = "NEW: how many new BUNDLES are made by it (of several ways the fewest)";
        fewest(says, wanted(1, 1), 2, 0);
        fewest(says, wanted(3, 1), 4, 0);
        fewest(says, wanted(1, 1, 1, 1), 2, 1);
        fewest(says, wanted(2, 2, 2, 2), 3, 1);
        fewest(says, "thing 0 1;thing 0 1;thing 1 2;thing 1 2;task 0 2;task 1 2;task 2 2;task 3 2;", 5, 1);
        fewest(says, "thing 0 2;thing 0 2;thing 1 2;thing 1 2;thing 2 2;thing 2 2;thing 3 2;thing 3 2;"
                + "task 0 1;task 1 1;task 2 2;task 3 2;task 4 3;task 5 3;task 6 0;task 7 0;", 12, 4);
    }

    private static void fewestAsksNobody() {
        String says = "FEWEST is told, whoever is there and whatever is LEFT";
        fewest(says, wanted(3, 3), 4, 1);
        FiveThings x = Check.told("person 1 0;" + wanted(3, 3));
        x.dropped(0);
        same(says, x.fewest(0), 4);
        same(says, x.fewest(1), 1);
    }

    private static void canWithJustEnough() {
        String says = "none more often than is LEFT";
        for (int n = 1; n <= 8; n++) {
            int[] ones = new int[n];
            Arrays.fill(ones, 1);
            FiveThings x = Check.told("person " + n + " 0;" + wanted(ones));
            same(says + " just " + n, x.can(), 1);
            x.dropped(0);
            same(says + " one fewer than " + n, x.can(), 0);
            x.slept();
            same(says + " the next DAY", x.can(), 1);
        }
        same("nothing is DUE, nobody there", new FiveThings().can(), 1);
        FiveThings y = Check.told("person 1 0;thing 0 1;");
        y.dropped(0);
        same("nothing is DUE, none LEFT", y.can(), 1);
        same("one is DUE, nobody there", Check.told(wanted(1)).can(), 0);
    }

    private static void canByUnlikePeople() {
        String says = "by as many unlike PEOPLE as its HANDS";
        for (int hands = 1; hands <= 3; hands++) {
            for (int n = 0; n <= 4; n++) {
                FiveThings x = Check.told(Edge.times(n, "person 9 0;") + wanted(hands));
                same(says + " " + hands + " by " + n, x.can(), n >= hands ? 1 : 0);
            }
        }
        same(says + " one of them twice, the other once", Check.told("person 9 0;person 1 0;" + wanted(2, 2)).can(), 0);
        same(says + " each twice", Check.told("person 2 0;person 2 0;" + wanted(2, 2)).can(), 1);
        same(says + " in turns", Check.told(Edge.times(3, "person 2 0;") + wanted(2, 2, 2)).can(), 1);
        same(says + " one too few", Check.told("person 2 0;person 2 0;person 1 0;" + wanted(2, 2, 2)).can(), 0);
        same(says + " all with all", Check.told(Edge.times(3, "person 8 0;") + wanted(3, 3, 3, 3, 3, 3, 3, 3)).can(), 1);
        same(says + " but one", Check.told("person 8 0;person 8 0;person 7 0;" + wanted(3, 3, 3, 3, 3, 3, 3, 3)).can(),
                0);
        same(says + " four in turns", Check.told(Edge.times(4, "person 6 0;") + wanted(3, 3, 3, 3, 3, 3, 3, 3)).can(),
                1);
    }

    private static void canEachByItself() {
        String says = "each lifted once, by itself";
        FiveThings x = Check.told("person 2 0;" + wanted(1, 1, 1));
        same(says + " FEWEST would be enough", x.fewest(0), 2);
        same(says + " but they are not tied", x.can(), 0);
        x.tied(0, 7);
        same(says + " a BUNDLE is one JOB", x.can(), 1);
        x.dropped(0);
        same(says + " none LEFT", x.can(), 0);
    }

    private static void cheapLeastAndMost() {
        String says = "CHEAP: the least that it costs by their PRICES; NONE";
        same(says + " nothing is DUE", new FiveThings().cheap(), 0);
        same(says + " nothing is DUE", Check.told("person 9 9;thing 0 3;").cheap(), 0);
        same(says + " for nothing", Check.told("person 9 0;" + wanted(1, 1)).cheap(), 0);
        same(says + " once", Check.told("person 9 9;" + wanted(1)).cheap(), 9);
        same(says + " the most", Check.told(Edge.times(3, "person 8 9;") + wanted(3, 3, 3, 3, 3, 3, 3, 3)).cheap(), 216);
        same(says + " nobody", Check.told(wanted(1)).cheap(), NONE);
        same(says + " one lift too few", Check.told("person 1 1;" + wanted(1, 1)).cheap(), NONE);
        same(says + " one hand too few", Check.told("person 9 1;" + wanted(2)).cheap(), NONE);
        same(says + " of two the cheaper", Check.told("person 9 5;person 9 4;" + wanted(1, 1)).cheap(), 8);
        same(says + " both at each", Check.told("person 9 5;person 9 4;" + wanted(2, 2)).cheap(), 18);
        same(says + " the cheap one is bound by the other JOB",
                Check.told("person 2 0;person 1 7;person 1 9;" + wanted(2, 1)).cheap(), 7);
        same(says + " the dear one is needed", Check.told("person 1 0;person 1 7;person 1 9;" + wanted(2, 1)).cheap(), 16);
    }

    private static void cheapByWhatIsLeft() {
        String says = "none more often than is LEFT, CHEAP";
        FiveThings x = Check.told("person 2 1;person 9 5;" + wanted(1, 1));
        same(says, x.cheap(), 2);
        x.dropped(0);
        same(says, x.cheap(), 6);
        x.dropped(0);
        same(says, x.cheap(), 10);
        x.slept();
        same(says, x.cheap(), 2);
        x.tied(1, 3);
        same(says + " a BUNDLE once", x.cheap(), 1);
    }

    private static void leastPeopleOfNone() {
        String says = "LEAST PEOPLE, as bits (0: nothing is DUE); NONE";
        same(says, new FiveThings().leastPeople(), 0);
        same(says, Check.told("person 9 0;thing 0 1;").leastPeople(), 0);
        same(says, Check.told("person 9 0;thing 0 1;task 0 0;").leastPeople(), 0);
        same(says + " nobody", Check.told(wanted(1)).leastPeople(), NONE);
        same(says + " too few", Check.told("person 1 0;person 1 0;" + wanted(1, 1, 1)).leastPeople(), NONE);
        same(says + " too few hands", Check.told("person 9 0;person 9 0;" + wanted(3)).leastPeople(), NONE);
    }

    private static void leastPeopleFewestFirst() {
        String says = "the fewest PEOPLE who can";
        String three = wanted(1, 1, 1);
        same(says + " the last alone, not two before",
                Check.told("person 2 0;person 2 0;person 2 0;person 3 9;" + three).leastPeople(), 8);
        same(says + " all four", Check.told(Edge.times(4, "person 1 0;") + wanted(1, 1, 1, 1)).leastPeople(), 15);
        same(says + " three of four",
                Check.told("person 1 0;person 1 0;person 1 0;person 1 0;" + three).leastPeople(), 7);
        same(says + " as many as HANDS", Check.told(Edge.times(4, "person 9 0;") + wanted(3)).leastPeople(), 7);
    }

    private static void leastPeopleOfSeveralTheLeast() {
        String says = "of several sets the least (bits)";
        String three = wanted(1, 1, 1);
        same(says + " one", Check.told(Edge.times(4, "person 3 0;") + three).leastPeople(), 1);
        same(says + " not by PRICE", Check.told("person 3 9;person 3 0;" + three).leastPeople(), 1);
        same(says + " 3 before 6, 9 and 12",
                Check.told("person 1 0;person 2 0;person 1 0;person 2 0;" + three).leastPeople(), 3);
        same(says + " 5 before 6, 9 and 10",
                Check.told("person 1 0;person 1 0;person 2 0;person 2 0;" + three).leastPeople(), 5);
        same(says + " 6 before 9 and 10",
                Check.told("person 1 0;person 2 0;person 2 0;person 3 0;" + wanted(1, 1, 1, 1)).leastPeople(), 6);
        FiveThings x = Check.told("person 3 0;person 3 0;" + three);
        x.dropped(0);
        same(says + " by what is LEFT", x.leastPeople(), 2);
        x.dropped(1);
        same(says + " by what is LEFT", x.leastPeople(), 3);
        x.dropped(1);
        same(says + " just enough", x.leastPeople(), 3);
        x.dropped(1);
        same(says + " still", x.leastPeople(), NONE);
    }

    private static void lostJustAsMany() {
        String says = "(not as many PEOPLE with one LEFT)";
        for (int hands = 1; hands <= 3; hands++) {
            for (int n = 0; n <= 4; n++) {
                FiveThings x = Check.told(Edge.times(n, "person 1 0;") + wanted(hands));
                same(says + " " + hands + " by " + n, x.lost(), n >= hands ? 0 : 1);
                if (n > 0) {
                    x.dropped(n - 1);
                    same(says + " " + hands + " by " + n + " but one", x.lost(), n > hands ? 0 : 1);
                    x.slept();
                    same(says + " the next DAY", x.lost(), n >= hands ? 0 : 1);
                }
            }
        }
    }

    private static void lostIsForOneAlone() {
        String says = "can't be lifted today even if all is done for this one alone";
        FiveThings x = Check.told("person 1 0;" + wanted(1, 1, 2));
        same(says + " not both, but either", x.lost(), 4);
        same(says + " though not all can be", x.can(), 0);
        x.dropped(0);
        same(says + " all", x.lost(), 7);
        same("LOST: of DUE JOBS alone", Check.told("thing 0 3;thing 0 3;thing 1 3;task 1 1;task 2 1;").lost(), 2);
        same("LOST: nothing is DUE", new FiveThings().lost(), 0);
        same("LOST: all eight", Check.told(wanted(1, 2, 3, 1, 2, 3, 1, 2)).lost(), 255);
    }

    private static void lostOfABundle() {
        String says = "LOST: THINGS (bits) of DUE JOBS";
        FiveThings x = Check.told("person 9 0;person 9 0;" + wanted(1) + "thing 0 3;thing 0 3;");
        same(says + " by itself it can be", x.lost(), 0);
        x.tied(0, 3);
        same(says + " its BUNDLE needs most", x.lost(), 3);
        x.untied(1);
        same(says + " untied", x.lost(), 0);
    }

    private static FiveThings eight(String people) {
        FiveThings x = Check.told(people + Edge.times(8, "thing 0 1;"));
        x.keep(0);
        return x;
    }

    private static void movedNoneAndAll() {
        String says = "MOVED since an IMAGE: THINGS in another ROOM than there: bits";
        FiveThings x = eight("person 9 0;");
        same(says + " none", x.moved(0, 0), 0);
        same("WAYS of none", x.moved(0, 1), 1);
        int bits = 0;
        for (int t = 0; t < 8; t++) {
            x.lifted(1, t, 3);
            bits |= 1 << t;
            same(says + " so far", x.moved(0, 0), bits);
            same("WAYS of one carrier", x.moved(0, 1), 1);
        }
        x.slept();
        x.lifted(1, 0, 0);
        same(says + " back again", x.moved(0, 0), 254);
        FiveThings none = new FiveThings();
        none.keep(1);
        same(says + " no THINGS", none.moved(1, 0), 0);
        same("WAYS of no THINGS, nobody", none.moved(1, 1), 1);
    }

    private static void movedRefused() {
        String says = "moved: BAD; STATE: that IMAGE was not kept";
        int[] wrong = {-1, 2, 3};
        for (int w : wrong) {
            Edge.unchanged(says, Edge::busy, x -> x.moved(w, 0), BAD);
            Edge.unchanged(says, Edge::busy, x -> x.moved(w, 1), BAD);
            Edge.unchanged(says, Edge::busy, x -> x.moved(0, w), BAD);
            Edge.unchanged(says, Edge::busy, x -> x.moved(1, w), BAD);
            Edge.unchanged("BAD before STATE", FiveThings::new, x -> x.moved(0, w), BAD);
            Edge.unchanged("BAD before STATE", FiveThings::new, x -> x.moved(1, w), BAD);
        }
        Edge.unchanged(says, FiveThings::new, x -> x.moved(0, 0), STATE);
        Edge.unchanged(says, FiveThings::new, x -> x.moved(1, 1), STATE);
        FiveThings y = eight("person 9 0;");
        same(says + " the other was", y.moved(1, 0), STATE);
        same(says + " the other was", y.moved(1, 1), STATE);
    }

    private static void movedAgainstItsImage() {
        String says = "MOVED since an IMAGE, each its own";
        FiveThings x = eight("person 9 0;");
        x.lifted(1, 2, 1);
        x.keep(1);
        x.lifted(1, 5, 1);
        same(says, x.moved(0, 0), 36);
        same(says, x.moved(1, 0), 32);
        x.keep(0);
        same(says + " kept again", x.moved(0, 0), 0);
        x.back(1);
        same(says + " it is as there", x.moved(1, 0), 0);
        same(says + " the other is not", x.moved(0, 0), 32);
        x.slept();
        x.slept();
        same(says + " days later", x.moved(0, 0), 32);
    }

    private static void waysJustEnough() {
        String says = "none by more than his LIFTS a day";
        for (int n = 1; n <= 8; n++) {
            FiveThings x = eight("person " + n + " 0;");
            for (int t = 0; t < n; t++) {
                x.lifted(1, t, 1);
            }
            same(says + " just " + n, x.moved(0, 1), 1);
            if (n < 8) {
                x.slept();
                x.lifted(1, n, 1);
                same(says + " one more than " + n, x.moved(0, 1), 0);
            }
        }
        FiveThings y = eight(Edge.times(4, "person 8 0;"));
        y.tied(0, 255);
        y.lifted(2, 0, 1);
        same(says + " the most", y.moved(0, 1), 65536);
        y.dropped(0);
        same(says + " LIFTS a day, not what is LEFT", y.moved(0, 1), 65536);
        FiveThings z = eight(Edge.times(4, "person 2 0;"));
        z.tied(0, 255);
        z.lifted(2, 0, 1);
        same(says + " two each", z.moved(0, 1), 2520);
        FiveThings v = eight("person 2 0;person 2 0;person 2 0;person 1 0;");
        v.tied(0, 255);
        v.lifted(2, 0, 1);
        same(says + " one too few", v.moved(0, 1), 0);
    }

    private static void waysAsksNoHandsNoBundles() {
        String says = "(HANDS, BUNDLES are not asked)";
        FiveThings x = Check.told("person 1 0;person 1 0;person 1 0;thing 0 3;thing 0 3;");
        x.keep(0);
        x.lifted(7, 0, 1);
        same(says + " each of three alone", x.moved(0, 1), 3);
        x.slept();
        x.lifted(7, 1, 1);
        same(says + " two unlike ones", x.moved(0, 1), 6);
        FiveThings y = Check.told("person 2 0;person 9 0;thing 0 1;thing 0 1;");
        y.keep(0);
        y.tied(0, 3);
        y.lifted(1, 0, 1);
        same(says + " each by itself", y.moved(0, 1), 4);
    }

    private static void chainGaps() {
        String says = "CHAIN from a ROOM over k (1 .. 9) gaps";
        for (int k = 1; k <= 9; k++) {
            same(says + " " + k, Check.told("person 2 0;thing 0 3;").chain(0, k), 2 * k);
        }
        int[] wrong = {0, 10, -1};
        for (int k : wrong) {
            Edge.unchanged(says + " " + k, Edge::busy, x -> x.chain(0, k), BAD);
            Edge.unchanged(says + " BAD before NONE " + k, FiveThings::new, x -> x.chain(0, k), BAD);
        }
        Edge.unchanged(says + " no ROOM", Edge::busy, x -> x.chain(5, 1), BAD);
        Edge.unchanged(says + " no ROOM", Edge::busy, x -> x.chain(-1, 1), BAD);
        Edge.unchanged(says + " BAD before NONE", FiveThings::new, x -> x.chain(4, 1), BAD);
        Edge.unchanged(says + " BAD before NONE", FiveThings::new, x -> x.chain(-1, 1), BAD);
    }

    private static void chainRoundedUp() {
        String says = "rounded up: so many PEOPLE at each gap; at all together";
        String things = "";
        for (int hands = 1; hands <= 8; hands++) {
            things += "thing 0 1;";
            for (int lifts = 1; lifts <= 9; lifts++) {
                int due = hands / lifts + (hands % lifts == 0 ? 0 : 1);
                FiveThings x = Check.told("person " + lifts + " 0;" + things);
                same(says + " " + hands + " by " + lifts, x.chain(0, 1), due);
                same(says + " rounded at each gap", x.chain(0, 9), 9 * due);
            }
        }
        same(says + " the most", Check.told("person 1 0;" + Edge.times(8, "thing 0 3;")).chain(0, 9), 216);
    }

    private static void chainOfNothing() {
        String says = "HANDS of all THINGS there together (none)";
        FiveThings x = Check.told("person 1 0;person 9 0;thing 0 3;thing 0 2;thing 1 1;");
        same(says, x.chain(2, 9), 0);
        same(says + " of one ROOM alone", x.chain(0, 1), 1);
        same(says + " of one ROOM alone", x.chain(1, 1), 1);
        x.lifted(2, 2, 3);
        same(says + " carried away", x.chain(1, 1), 0);
        same(says + " carried there", x.chain(3, 2), 2);
        FiveThings y = Check.told("person 1 0;person 1 0;thing 0 2;thing 0 2;");
        y.tied(0, 3);
        same("HANDS of all THINGS, tied or not", y.chain(0, 1), 4);
    }

    private static void chainOfNobody() {
        String says = "NONE: there is nobody";
        Edge.unchanged(says, FiveThings::new, x -> x.chain(0, 1), NONE);
        Edge.unchanged(says, FiveThings::new, x -> x.chain(3, 9), NONE);
        Edge.unchanged(says, () -> Check.told("thing 0 3;"), x -> x.chain(0, 1), NONE);
        same(says + " but one", Check.told("person 1 0;").chain(0, 1), 0);
    }

    private static void chainAsksLiftsADay() {
        String says = "by the LIFTS a day of whoever has most";
        String things = "thing 0 3;thing 0 3;";
        same(says + " the first", Check.told("person 6 0;person 1 0;" + things).chain(0, 1), 1);
        same(says + " the last", Check.told("person 1 0;person 1 0;person 1 0;person 6 0;" + things).chain(0, 1), 1);
        same(says + " one fewer", Check.told("person 5 0;person 5 0;" + things).chain(0, 1), 2);
        FiveThings x = Check.told("person 6 0;" + things);
        for (int i = 0; i < 6; i++) {
            x.dropped(0);
        }
        same(says + " though none is LEFT", x.chain(0, 1), 1);
    }
}
