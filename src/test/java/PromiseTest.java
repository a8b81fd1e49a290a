/** Each promise of the document by itself: ordinary inputs, the edges it names, wrong inputs. */
public final class PromiseTest {
    private static final int BAD = FiveThings.BAD, STATE = FiveThings.STATE, FULL = FiveThings.FULL;
    private static final int NONE = FiveThings.NONE, NO = FiveThings.NO;

    public static void main(String[] args) {
        promise1New();
        promise2Type();
        promise3Clear();
        promise4House();
        promise4Faults();
        promise4ReadAnew();
        promise5Person();
        promise6Thing();
        promise7Lifted();
        promise7LiftedBundle();
        promise8Tied();
        promise9Untied();
        promise10Dropped();
        promise11Slept();
        promise12Fewest();
        promise13Can();
        promise14Cheap();
        promise15LeastPeople();
        promise16Lost();
        promise17Due();
        promise18Moved();
        promise19Chain();
        promise20Rate();
        promise21Keep();
        promise22Back();
        promise23Count();
        promise24Trace();
        Check.end();
    }

    private static void same(String what, long got, long due) {
        Check.same(what, got, due);
    }

    private static void counts(String what, FiveThings x, int... due) {
        for (int i = 0; i < due.length; i++) {
            same(what + " count(" + i + ")", x.count(i), due[i]);
        }
    }

    private static void promise1New() {
        FiveThings x = new FiveThings();
        counts("1 new", x, 4, 0, 0, 0, 0, 0, 0);
        same("1 trace", x.trace(), 0);
        same("1 person", x.person(0, 0), BAD);
        same("1 thing", x.thing(0, 0), BAD);
        same("1 no image", x.back(0), STATE);
        same("1 no image", x.back(1), STATE);
        same("1 nothing due", x.due(0), 0);
        same("1 can", x.can(), 1);
        same("1 constants", BAD, -1);
        same("1 constants", STATE, -2);
        same("1 constants", FULL, -3);
        same("1 constants", NONE, -9);
        same("1 constants", NO, -1000000);
    }

    private static void promise2Type() {
        FiveThings x = new FiveThings();
        same("2 n 0", x.type(65, 0), BAD);
        same("2 n 9", x.type(65, 9), BAD);
        same("2 n below", x.type(65, -1), BAD);
        same("2 n far", x.type(65, Integer.MIN_VALUE), BAD);
        same("2 one", x.type(';', 1), 1);
        same("2 only the lowest", x.type(0x7265203bL, 1), 2);
        same("2 fault", x.house(), -10);
        x.clear();
        // "rooms 6;" in two pieces, with more above the lowest bytes
        same("2 the highest first", x.type(0x7f726f6fL, 3), 3);
        same("2 next", x.type(0x6d7320363bL, 5), 8);
        same("2 read", x.house(), 1);
        same("2 rooms", x.count(0), 6);
        for (int i = 1; i <= 37; i++) {
            same("2 eight", x.type(0x2020202020202020L, 8), 8 * i);
        }
        same("2 full", x.type(0, 5), FULL);
        same("2 bad before full", x.type(0, 9), BAD);
        same("2 nothing changed", x.count(6), 296);
        same("2 just full", x.type(0x20202020L, 4), 300);
        same("2 full by one", x.type(32, 1), FULL);
        same("2 a text of 300", x.house(), 0);
        same("2 a high bit", x.type(-1L, 8), 8);
        same("2 its fault", x.house(), -10);
    }

    private static void promise3Clear() {
        FiveThings x = new FiveThings();
        same("3 empty", x.clear(), 0);
        Check.type(x, "person 1 1");
        same("3 ten", x.clear(), 10);
        same("3 gone", x.count(6), 0);
        same("3 gone", x.clear(), 0);
        Check.type(x, ";");
        same("3 the next text begins at 0", x.house(), -10);
    }

    private static void promise4House() {
        FiveThings x = Check.told("rooms 6;person 9 0;thing 5 3;task 0 0;");
        counts("4", x, 6, 1, 1, 1, 0, 0, 0);
        items("", 0);
        items("   ", 0);
        items(" rooms   2 ;", 1);
        items("rooms2;", 1);
        items("person 9 9;person 1 0;person 5 5;person 2 2;", 4);
        items("thing 3 1;thing 0 3;", 2);
        items("thing 0 1;task 0 1;task 0 2;", 3);
        items("thing 0 1;person 1 1;task 0 3;thing 1 1;task 1 0;", 5);
        items("rooms 6;thing 5 1;task 0 5;", 3);
        FiveThings y = Check.told("thing 0 1;task 0 1;task 0 2;");
        same("4 the later task", y.thing(0, 2), 2);
        same("4 one task", y.count(3), 1);
    }

    private static void items(String text, int due) {
        FiveThings x = new FiveThings();
        Check.type(x, text);
        same("4 '" + text + "'", x.house(), due);
        same("4 text is empty then", x.count(6), 0);
    }

    private static void fault(String text, int place) {
        FiveThings x = Check.told("rooms 5;person 3 4;thing 1 2;task 0 4;");
        x.keep(1);
        x.slept();
        Check.type(x, text);
        same("4 fault of '" + text + "'", x.house(), -10 - place);
        counts("4 nothing changes by '" + text + "'", x, 5, 1, 1, 1, 0, 1, text.length());
        same("4 nothing changes", x.person(0, 1), 4);
        same("4 nothing changes", x.thing(0, 2), 4);
        same("4 images stay", x.back(1), 0);
        same("4 fault again", x.house(), -10 - place);
    }

    private static void promise4Faults() {
        fault(";", 0);
        fault("rooms", 5);
        fault("rooms ", 6);
        fault("rooms 2", 7);
        fault("rooms 2  ", 9);
        fault("rooms 1;", 6);
        fault("rooms 7;", 6);
        fault("rooms 2 2;", 8);
        fault("rooms ;", 6);
        fault("rooms rooms;", 6);
        fault("rooms 2;rooms 2;", 8);
        fault("person 1 1;rooms 2;", 11);
        fault("room 2;", 0);
        fault("zooms 2;", 0);
        fault("persoo 1 1;", 0);
        fault("person 1 009;", 9);
        fault("person 1 109;", 9);
        fault("roomss 2;", 0);
        fault(" Rooms 2;", 1);
        fault("roomS 2;", 0);
        fault("rooms\t2;", 5);
        fault("person 0 1;", 7);
        fault("person 10 1;", 7);
        fault("person 1 10;", 9);
        fault("person 1 100;", 9);
        fault("person 1 00;", 9);
        fault("person 01 1;", 7);
        fault("person 1;", 8);
        fault("person 1 1 1;", 11);
        fault("person 1 -1;", 9);
        fault("person 1 1;;", 11);
        fault("person 1 1;person 1 1;person 1 1;person 1 1;person", 44);
        fault("thing 4 1;", 6);
        fault("rooms 2;thing 2 1;", 14);
        fault("thing 0 0;", 8);
        fault("thing 0 4;", 8);
        fault("thing 0 1x;", 9);
        fault("thing 0 1 x;", 10);
        fault("thing 99999999999999999999 1;", 6);
        fault("thing 4294967296 1;", 6);
        fault("thing 0 1;thing 0 1;thing 0 1;thing 0 1;thing 0 1;thing 0 1;thing 0 1;thing 0 1;thing 0 1;", 80);
        fault("task 0 0;", 5);
        fault("task", 4);
        fault("thing 0 1;task 1 0;", 15);
        fault("thing 0 1;task 0 4;", 17);
        fault("thing 0 1;task 0;", 16);
        fault("thing 0 1;task 0 1;task 0 2", 27);
        fault("thing 0 1;" + (char) 0, 10);
        fault("thing 0 1;" + (char) 0xf4 + ";", 10);
        fault("thing 0" + (char) 0xe1 + " 1;", 7);
        fault("2;", 0);
        fault("100;", 0);
        fault("x rooms 2;", 0);
        fault("task 00 0;", 5);
    }

    private static void promise4ReadAnew() {
        FiveThings x = Check.told("rooms 3;person 3 1;person 4 1;thing 0 1;thing 0 1;task 0 1;");
        x.keep(0);
        x.keep(1);
        x.tied(0, 3);
        x.slept();
        x.dropped(1);
        x.rate(0, 0);
        Check.type(x, "person 2 7;thing 0 2;thing 1 1;");
        same("4 anew", x.house(), 3);
        counts("4 anew", x, 4, 1, 2, 0, 0, 0, 0);
        same("4 anew, left", x.person(0, 2), 2);
        same("4 anew, no task", x.thing(0, 2), NONE);
        same("4 anew, not tied", x.thing(0, 3), NONE);
        same("4 anew, no image", x.back(0), STATE);
        same("4 anew, no image", x.moved(1, 0), STATE);
        same("4 anew, the trace stays", x.trace(), 1);
        same("4 the empty text tells all", x.house(), 0);
        counts("4 the empty text", x, 4, 0, 0, 0, 0, 0, 0);
    }

    private static void promise5Person() {
        FiveThings x = Check.told("person 9 0;person 1 9;");
        same("5 lifts", x.person(0, 0), 9);
        same("5 price", x.person(0, 1), 0);
        same("5 left", x.person(0, 2), 9);
        same("5 lifts", x.person(1, 0), 1);
        same("5 price", x.person(1, 1), 9);
        x.dropped(0);
        same("5 left less", x.person(0, 2), 8);
        same("5 lifts stay", x.person(0, 0), 9);
        same("5 what", x.person(0, 3), BAD);
        same("5 what", x.person(0, -1), BAD);
        same("5 nobody", x.person(2, 0), BAD);
        same("5 nobody", x.person(-1, 0), BAD);
        same("5 nobody", x.person(Integer.MAX_VALUE, 0), BAD);
    }

    private static void promise6Thing() {
        FiveThings x = Check.told("person 9 0;thing 2 3;thing 3 1;thing 3 2;task 0 2;");
        same("6 room", x.thing(0, 0), 2);
        same("6 hands", x.thing(0, 1), 3);
        same("6 wanted", x.thing(0, 2), 2);
        same("6 no task", x.thing(1, 2), NONE);
        same("6 not tied", x.thing(1, 3), NONE);
        x.tied(0, 6);
        same("6 bundle", x.thing(1, 3), 1);
        same("6 bundle", x.thing(2, 3), 1);
        same("6 its own hands", x.thing(1, 1), 1);
        same("6 what", x.thing(0, 4), BAD);
        same("6 what", x.thing(0, -1), BAD);
        same("6 none", x.thing(3, 0), BAD);
        same("6 none", x.thing(-1, 0), BAD);
        same("6 none", x.thing(8, 0), BAD);
    }

    private static void promise7Lifted() {
        FiveThings x = Check.told("person 1 1;person 2 1;person 3 1;thing 0 1;thing 0 2;thing 0 3;");
        same("7 nobody's bit", x.lifted(8, 0, 1), BAD);
        same("7 nobody's bit among others", x.lifted(9, 0, 1), BAD);
        same("7 below 0", x.lifted(-1, 0, 1), BAD);
        same("7 the highest bit", x.lifted(Integer.MIN_VALUE, 0, 1), BAD);
        same("7 no thing", x.lifted(1, 3, 1), BAD);
        same("7 no thing", x.lifted(1, -1, 1), BAD);
        same("7 no room", x.lifted(1, 0, 4), BAD);
        same("7 no room", x.lifted(1, 0, -1), BAD);
        same("7 bad before state", x.lifted(7, 0, 4), BAD);
        same("7 too few: none at all", x.lifted(0, 0, 1), STATE);
        same("7 too many", x.lifted(3, 0, 1), STATE);
        same("7 too few", x.lifted(3, 2, 1), STATE);
        same("7 it is there", x.lifted(1, 0, 0), STATE);
        same("7 nothing was spent", x.person(0, 2), 1);
        same("7 three", x.lifted(7, 2, 3), 1);
        same("7 room then", x.thing(2, 0), 3);
        same("7 spent", x.person(0, 2), 0);
        same("7 spent", x.person(1, 2), 1);
        same("7 spent", x.person(2, 2), 2);
        same("7 one has none left", x.lifted(3, 1, 1), STATE);
        same("7 nothing was spent", x.person(1, 2), 1);
        same("7 two", x.lifted(6, 1, 1), 1);
        same("7 one", x.lifted(4, 0, 2), 1);
        same("7 none left", x.lifted(4, 0, 1), STATE);
    }

    private static void promise7LiftedBundle() {
        FiveThings x = Check.told("person 9 1;person 9 1;thing 0 1;thing 0 2;thing 0 1;thing 0 1;");
        x.tied(0, 7);
        same("7 as many as one needs most", x.lifted(1, 0, 1), STATE);
        same("7 all of it", x.lifted(3, 2, 1), 3);
        same("7 with it", x.thing(0, 0), 1);
        same("7 with it", x.thing(1, 0), 1);
        same("7 not with it", x.thing(3, 0), 0);
        same("7 once each", x.person(0, 2), 7);
        same("7 once each", x.person(1, 2), 8);
        same("7 still tied", x.thing(2, 3), 0);
    }

    private static void promise8Tied() {
        FiveThings x = Check.told("person 2 1;person 1 1;thing 1 1;thing 0 2;thing 0 1;thing 0 1;thing 0 1;");
        same("8 nobody", x.tied(2, 6), BAD);
        same("8 nobody", x.tied(-1, 6), BAD);
        same("8 no bits", x.tied(0, 0), BAD);
        same("8 one", x.tied(0, 4), BAD);
        same("8 bits of none", x.tied(0, 38), BAD);
        same("8 bits of none", x.tied(0, -2), BAD);
        same("8 not one room", x.tied(0, 3), STATE);
        same("8 not one room", x.tied(0, 31), STATE);
        same("8 nothing was spent", x.person(0, 2), 2);
        same("8 the least", x.tied(0, 12), 2);
        same("8 spent", x.person(0, 2), 1);
        same("8 one is tied", x.tied(0, 6), STATE);
        same("8 all are tied", x.tied(0, 12), STATE);
        same("8 another", x.tied(0, 18), 1);
        same("8 two bundles", x.count(4), 2);
        x.untied(4);
        same("8 none left", x.tied(0, 18), STATE);
        same("8 who has", x.tied(1, 18), 1);
        same("8 none left", x.person(1, 2), 0);
    }

    private static void promise9Untied() {
        FiveThings x = Check.told("person 9 1;thing 0 1;thing 0 1;thing 0 1;thing 0 1;thing 0 1;");
        x.tied(0, 7);
        x.tied(0, 24);
        same("9 none", x.untied(5), BAD);
        same("9 none", x.untied(-1), BAD);
        same("9 by one of it", x.untied(1), 3);
        same("9 free", x.thing(0, 3), NONE);
        same("9 free", x.thing(2, 3), NONE);
        same("9 the other stays", x.thing(4, 3), 3);
        same("9 nothing is spent", x.person(0, 2), 7);
        same("9 not tied", x.untied(1), STATE);
        same("9 the other", x.untied(4), 2);
        same("9 none is left", x.count(4), 0);
    }

    private static void promise10Dropped() {
        FiveThings x = Check.told("person 2 1;person 1 1;");
        same("10 one less", x.dropped(0), 1);
        same("10 one less", x.dropped(0), 0);
        same("10 none left", x.dropped(0), STATE);
        same("10 still none", x.person(0, 2), 0);
        same("10 the other", x.person(1, 2), 1);
        same("10 nobody", x.dropped(2), BAD);
        same("10 nobody", x.dropped(-1), BAD);
    }

    private static void promise11Slept() {
        FiveThings x = Check.told("person 2 1;person 3 1;thing 0 1;thing 0 1;");
        x.dropped(0);
        x.tied(1, 3);
        x.lifted(1, 0, 1);
        same("11 the next day", x.slept(), 1);
        same("11 all again", x.person(0, 2), 2);
        same("11 all again", x.person(1, 2), 3);
        same("11 still tied", x.thing(1, 3), 0);
        same("11 still there", x.thing(1, 0), 1);
        for (int day = 2; day <= 99; day++) {
            same("11 day", x.slept(), day);
        }
        x.dropped(0);
        same("11 the last", x.slept(), STATE);
        same("11 still the last", x.count(5), 99);
        same("11 nothing changes", x.person(0, 2), 1);
    }

    private static void fewest(String text, int lifts, int bundles) {
        FiveThings x = Check.told(text);
        same("12 fewest of " + text, x.fewest(0), lifts);
        same("12 new of " + text, x.fewest(1), bundles);
    }

    private static void promise12Fewest() {
        fewest("", 0, 0);
        fewest("thing 0 3;task 0 1;", 3, 0);
        fewest("thing 0 3;task 0 0;", 0, 0);
        fewest("thing 0 1;thing 0 1;task 0 1;task 1 1;", 2, 0);
        fewest("thing 0 1;thing 0 1;thing 0 1;task 0 1;task 1 1;task 2 1;", 2, 1);
        fewest("thing 0 3;thing 0 1;task 0 1;task 1 1;", 4, 0);
        fewest("thing 0 2;thing 0 2;task 0 1;task 1 1;", 3, 1);
        fewest("thing 0 2;thing 0 2;task 0 1;task 1 2;", 4, 0);
        fewest("thing 0 2;thing 1 2;task 0 2;task 1 2;", 4, 0);
        fewest("thing 0 2;thing 0 2;thing 1 3;thing 1 3;task 0 1;task 1 1;task 2 0;task 3 0;", 7, 2);
        fewest("thing 0 2;thing 0 2;thing 0 3;task 0 1;task 1 1;", 3, 1);
        FiveThings x = Check.told("person 9 0;thing 0 1;thing 0 3;thing 0 2;thing 0 2;task 0 1;task 2 1;task 3 1;");
        x.tied(0, 3);
        same("12 a bundle is not tied with others", x.fewest(0), 6);
        same("12 a bundle is not new", x.fewest(1), 1);
        x.untied(0);
        x.tied(0, 5);
        same("12 tied alike", x.fewest(0), 4);
        same("12 what", x.fewest(2), BAD);
        same("12 what", x.fewest(-1), BAD);
        FiveThings y = barred();
        same("12 barred", y.fewest(0), NONE);
        same("12 barred", y.fewest(1), NONE);
        same("12 bad before barred", y.fewest(2), BAD);
    }

    /** Things 0 and 1 are tied, and wanted in unlike rooms. */
    private static FiveThings barred() {
        FiveThings x = Check.told("person 9 2;thing 0 1;thing 0 1;thing 0 1;thing 0 1;task 0 0;task 1 1;task 2 3;");
        x.tied(0, 11);
        return x;
    }

    private static void promise13Can() {
        FiveThings x = Check.told("person 2 0;person 1 0;thing 0 2;thing 0 1;task 0 1;task 1 1;");
        same("13 just so", x.can(), 1);
        x.dropped(1);
        same("13 two are needed", x.can(), 0);
        x.slept();
        x.dropped(0);
        same("13 too few lifts", x.can(), 0);
        FiveThings y = Check.told("person 9 0;person 1 0;thing 0 2;thing 0 2;task 0 1;task 1 1;");
        same("13 unlike people", y.can(), 0);
        y.tied(0, 3);
        same("13 as one", y.can(), 1);
        same("13 nobody, nothing", new FiveThings().can(), 1);
        same("13 nobody", Check.told("thing 0 1;task 0 1;").can(), 0);
        same("13 three of two", Check.told("person 9 0;person 9 0;thing 0 3;task 0 1;").can(), 0);
        same("13 it is not tied anew", Check.told("person 2 0;thing 0 1;thing 0 1;thing 0 1;"
                + "task 0 1;task 1 1;task 2 1;").can(), 0);
        same("13 barred", barred().can(), NONE);
    }

    private static void promise14Cheap() {
        FiveThings x = Check.told("person 1 2;person 9 5;thing 0 1;thing 0 1;task 0 1;task 1 1;");
        same("14 the cheap one once", x.cheap(), 7);
        x.dropped(0);
        same("14 the dear one alone", x.cheap(), 10);
        FiveThings y = Check.told("person 9 1;person 9 9;person 9 3;thing 0 2;thing 0 1;task 0 1;task 1 1;");
        same("14 two cheap ones", y.cheap(), 5);
        FiveThings z = Check.told("person 1 0;person 1 5;person 1 9;thing 0 2;thing 0 1;task 0 1;task 1 1;");
        same("14 all are needed", z.cheap(), 14);
        z.dropped(0);
        same("14 can't be", z.cheap(), NONE);
        same("14 nothing is due", new FiveThings().cheap(), 0);
        same("14 for nothing", Check.told("person 9 0;thing 0 1;task 0 1;").cheap(), 0);
        same("14 barred", barred().cheap(), NONE);
    }

    private static void promise15LeastPeople() {
        String things = "thing 0 1;thing 0 1;thing 0 1;task 0 1;task 1 1;task 2 1;";
        same("15 one", Check.told("person 2 0;person 2 0;person 3 9;person 9 0;" + things).leastPeople(), 4);
        same("15 the least of several", Check.told("person 1 0;person 2 9;person 2 0;" + things).leastPeople(), 3);
        same("15 the least of several", Check.told("person 1 0;person 1 9;person 2 0;" + things).leastPeople(), 5);
        same("15 all", Check.told("person 1 0;person 1 9;person 1 0;" + things).leastPeople(), 7);
        same("15 can't be", Check.told("person 1 0;person 1 9;" + things).leastPeople(), NONE);
        FiveThings x = Check.told("person 3 0;person 3 0;" + things);
        same("15 today", x.leastPeople(), 1);
        x.dropped(0);
        same("15 by what is left", x.leastPeople(), 2);
        same("15 nothing is due", Check.told("person 3 0;thing 0 1;").leastPeople(), 0);
        same("15 barred", barred().leastPeople(), NONE);
    }

    private static void promise16Lost() {
        FiveThings x = Check.told("person 1 0;person 2 0;thing 0 3;thing 0 2;thing 0 1;thing 0 3;thing 0 1;"
                + "task 0 1;task 1 1;task 2 1;");
        same("16 three of two", x.lost(), 1);
        x.tied(1, 20);
        same("16 alone", x.lost(), 1);
        x.dropped(1);
        same("16 two of one", x.lost(), 3);
        x.dropped(0);
        same("16 all of the bundle", x.lost(), 23);
        x.slept();
        same("16 the next day", x.lost(), 1);
        FiveThings y = Check.told("person 1 0;person 2 0;thing 0 1;thing 0 3;thing 0 3;task 0 1;");
        same("16 none", y.lost(), 0);
        y.tied(0, 3);
        same("16 by another of the bundle", y.lost(), 3);
        same("16 barred", barred().lost(), NONE);
    }

    private static void promise17Due() {
        FiveThings x = Check.told("person 9 0;thing 0 1;thing 0 1;thing 0 1;thing 1 1;thing 1 1;"
                + "task 0 1;task 1 1;task 3 1;task 4 2;");
        same("17 jobs", x.due(0), 3);
        x.tied(0, 3);
        same("17 as one", x.due(0), 2);
        same("17 wanted alike", x.due(1), 0);
        x.tied(0, 24);
        same("17 still", x.due(0), 2);
        same("17 wanted in unlike rooms", x.due(1), 24);
        x.lifted(1, 4, 2);
        same("17 still barred", x.due(1), 24);
        same("17 still due", x.due(0), 2);
        x.untied(3);
        same("17 free", x.due(1), 0);
        same("17 one is there", x.due(0), 2);
        x.lifted(1, 0, 1);
        x.lifted(1, 3, 1);
        same("17 all done", x.due(0), 0);
        same("17 what", x.due(2), BAD);
        same("17 what", x.due(-1), BAD);
        same("17 one without a task goes anywhere", barred().due(1), 11);
        same("17 with others", barred().due(0), 2);
        FiveThings y = Check.told("person 9 0;thing 0 1;thing 0 1;thing 0 1;thing 0 1;thing 0 1;thing 0 1;"
                + "task 0 1;task 1 2;task 2 0;task 3 3;task 4 1;task 5 1;");
        y.tied(0, 3);
        y.tied(0, 12);
        y.tied(0, 48);
        same("17 two barred bundles", y.due(1), 15);
    }

    private static void promise18Moved() {
        FiveThings x = Check.told("person 1 0;person 2 0;thing 0 1;thing 0 1;thing 0 2;thing 1 1;");
        same("18 not kept", x.moved(0, 0), STATE);
        same("18 bad before state", x.moved(0, 2), BAD);
        same("18 no image", x.moved(2, 0), BAD);
        same("18 no image", x.moved(-1, 0), BAD);
        x.keep(0);
        same("18 another was kept", x.moved(1, 1), STATE);
        same("18 none", x.moved(0, 0), 0);
        same("18 one way to do nothing", x.moved(0, 1), 1);
        x.lifted(2, 0, 1);
        same("18 one", x.moved(0, 0), 1);
        same("18 by either", x.moved(0, 1), 2);
        x.lifted(3, 2, 3);
        same("18 two", x.moved(0, 0), 5);
        same("18 not both by who lifts once", x.moved(0, 1), 3);
        x.slept();
        x.lifted(1, 3, 0);
        same("18 three", x.moved(0, 0), 13);
        same("18 who lifts twice must", x.moved(0, 1), 3);
        x.lifted(2, 1, 1);
        same("18 four", x.moved(0, 0), 15);
        same("18 too many", x.moved(0, 1), 0);
        x.keep(1);
        same("18 since the other", x.moved(1, 0), 0);
        x.slept();
        x.lifted(2, 0, 0);
        same("18 where it was", x.moved(0, 0), 14);
        same("18 where it was not", x.moved(1, 0), 1);
        same("18 what", x.moved(0, -1), BAD);
        FiveThings y = Check.told("person 9 0;person 8 0;person 9 0;person 1 0;thing 0 1;thing 0 1;thing 0 1;"
                + "thing 0 1;thing 0 1;thing 0 1;thing 0 1;thing 0 1;");
        y.keep(1);
        y.tied(0, 255);
        y.lifted(2, 3, 1);
        same("18 all eight", y.moved(1, 0), 255);
        same("18 three at will, the fourth once at most", y.moved(1, 1), 6561 + 8 * 2187);
    }

    private static void promise19Chain() {
        FiveThings x = Check.told("person 2 0;person 4 0;thing 0 3;thing 0 2;thing 1 3;thing 1 1;thing 2 1;");
        same("19 rounded up", x.chain(0, 1), 2);
        same("19 all gaps", x.chain(0, 9), 18);
        same("19 just so", x.chain(1, 3), 3);
        same("19 little", x.chain(2, 2), 2);
        same("19 nothing", x.chain(3, 9), 0);
        x.tied(0, 3);
        same("19 each thing's hands", x.chain(0, 1), 2);
        x.dropped(1);
        same("19 lifts a day", x.chain(0, 1), 2);
        same("19 once a day", Check.told("person 1 0;thing 0 3;thing 0 2;").chain(0, 3), 15);
        same("19 the first has most", Check.told("person 5 0;person 1 0;thing 0 3;thing 0 2;").chain(0, 3), 3);
        same("19 no room", x.chain(4, 1), BAD);
        same("19 no room", x.chain(-1, 1), BAD);
        same("19 no gap", x.chain(0, 0), BAD);
        same("19 ten", x.chain(0, 10), BAD);
        same("19 nobody", new FiveThings().chain(0, 1), NONE);
        same("19 bad before nobody", new FiveThings().chain(4, 1), BAD);
    }

    private static void promise20Rate() {
        FiveThings x = Check.told("person 5 2;person 9 0;person 1 9;");
        x.slept();
        x.slept();
        x.slept();
        x.dropped(0);
        x.dropped(2);
        same("20 person", x.rate(0, 0), 4);
        same("20 porter", x.rate(1, 0), 9);
        same("20 thief", x.rate(2, 0), 2);
        same("20 lawyer", x.rate(3, 0), 18);
        same("20 maid", x.rate(4, 0), 2);
        same("20 child", x.rate(5, 0), 7);
        same("20 below 0", x.rate(2, 2), -9);
        same("20 its number", x.rate(4, 2), -7);
        same("20 kind", x.rate(6, 0), NO);
        same("20 kind", x.rate(-1, 0), NO);
        same("20 nobody", x.rate(0, 3), NO);
        same("20 nobody", x.rate(0, -1), NO);
    }

    private static void promise21Keep() {
        FiveThings x = new FiveThings();
        same("21 day 0", x.keep(0), 0);
        x.slept();
        same("21 the day", x.keep(1), 1);
        same("21 kept", x.back(0), 0);
        same("21 kept", x.back(1), 1);
        x.slept();
        same("21 again", x.keep(0), 2);
        same("21 the later one", x.back(0), 2);
        same("21 none", x.keep(2), BAD);
        same("21 none", x.keep(-1), BAD);
    }

    private static void promise22Back() {
        FiveThings x = Check.told("person 5 1;person 3 1;thing 0 1;thing 0 1;thing 0 1;thing 0 1;");
        same("22 not kept", x.back(0), STATE);
        same("22 none", x.back(2), BAD);
        same("22 none", x.back(-1), BAD);
        x.tied(0, 3);
        x.dropped(1);
        x.keep(0);
        x.untied(0);
        x.tied(0, 12);
        x.lifted(1, 0, 2);
        x.slept();
        x.rate(0, 0);
        Check.type(x, "abc");
        same("22 the other was not kept", x.back(1), STATE);
        same("22 the day", x.back(0), 0);
        same("22 day", x.count(5), 0);
        same("22 room", x.thing(0, 0), 0);
        same("22 bundle", x.thing(1, 3), 0);
        same("22 bundle", x.thing(2, 3), NONE);
        same("22 left", x.person(0, 2), 4);
        same("22 left", x.person(1, 2), 2);
        same("22 the text stays", x.count(6), 3);
        same("22 the trace stays", x.trace(), 1);
        x.lifted(1, 0, 3);
        same("22 the image stays as it was", x.back(0), 0);
        same("22 room", x.thing(1, 0), 0);
    }

    private static void promise23Count() {
        FiveThings x = Check.told("rooms 5;person 9 1;person 3 1;person 3 1;thing 0 1;thing 0 1;thing 0 1;thing 0 1;"
                + "task 1 2;task 1 3;task 2 0;");
        counts("23", x, 5, 3, 4, 2, 0, 0, 0);
        x.tied(0, 3);
        x.tied(0, 12);
        x.slept();
        Check.type(x, "person");
        counts("23 later", x, 5, 3, 4, 2, 2, 1, 6);
        same("23 what", x.count(7), BAD);
        same("23 what", x.count(-1), BAD);
    }

    private static void promise24Trace() {
        FiveThings x = Check.told("person 5 2;");
        long due = 0;
        long[] bodies = {1, 11, 101, 1011, 10101, 100001};
        for (int kind = 0; kind < bodies.length; kind++) {
            x.rate(kind, 0);
            due += bodies[kind];
            same("24 kind " + kind, x.trace(), due);
        }
        x.rate(6, 0);
        x.rate(0, 1);
        same("24 refused", x.trace(), due);
        for (int i = 0; i < 400; i++) {
            x.rate(5, 0);
        }
        same("24 often", x.trace(), due + 400 * 100001L);
    }
}
