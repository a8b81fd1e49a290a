/** The edges that the document names for the house: its section 1, promises 1 to 6 and 23. */
public final class HouseEdgeTest {
    private static final int BAD = FiveThings.BAD, FULL = FiveThings.FULL, NONE = FiveThings.NONE;

    public static void main(String[] args) {
        aNewObject();
        roomsTwoToSix();
        fourRoomsAtFirst();
        fourPeopleAtMost();
        liftsOneToNine();
        pricesNoneToNine();
        eightThingsAtMost();
        thingsInARoom();
        handsOneToThree();
        tasks();
        taskToldAgain();
        typeOneToEightBytes();
        typeTheLowestTheHighestFirst();
        textOf300();
        textOf300IsRead();
        clearEmptyAndFull();
        blanks();
        everyByteBetween();
        everyByteAtTheEnd();
        itemsEnded();
        roomsFirstOfAll();
        numbersOfAnItem();
        wordsOfLetters();
        wordsThatAreNone();
        bytesThatBeginNone();
        numbersAbove99();
        numbersWithAZeroAhead();
        thingsNotTold();
        theFirstFaultCounts();
        textThatEndsTooEarly();
        aFaultLeavesTheText();
        readAnew();
        theEmptyText();
        whatOfOne();
        whatOfAThing();
        whatIsCounted();
        Check.end();
    }

    private static void same(String what, long got, long due) {
        Check.same(what, got, due);
    }

    private static void aNewObject() {
        String says = "As told; four ROOMS, no PEOPLE, no THINGS.";
        FiveThings x = new FiveThings();
        int[] due = {4, 0, 0, 0, 0, 0, 0};
        for (int what = 0; what < due.length; what++) {
            same(says + " count " + what, x.count(what), due[what]);
        }
        same(says, x.person(0, 0), BAD);
        same(says, x.thing(0, 0), BAD);
        same(says, x.lifted(0, 0, 0), BAD);
        same(says, x.tied(0, 3), BAD);
        same(says, x.untied(0), BAD);
        same(says, x.dropped(0), BAD);
        same(says, x.rate(0, 0), FiveThings.NO);
        same(says, x.moved(0, 0), FiveThings.STATE);
        same(says, x.moved(1, 1), FiveThings.STATE);
        same(says, x.back(0), FiveThings.STATE);
        same(says, x.back(1), FiveThings.STATE);
        same(says, x.trace(), 0);
    }

    private static void roomsTwoToSix() {
        String says = "ROOMS 0 .. n - 1 (n 2 .. 6";
        for (int n = 2; n <= 6; n++) {
            String head = "rooms " + n + ";";
            FiveThings x = Edge.read(says, head + "person 9 0;thing 0 1;thing " + (n - 1) + " 1;task 0 " + (n - 1) + ";",
                    5);
            same(says + " n", x.count(0), n);
            same(says + " the last", x.thing(1, 0), n - 1);
            same(says + " the last", x.thing(0, 2), n - 1);
            same(says + " the last", x.chain(n - 1, 1), 1);
            same(says + " one more", x.chain(n, 1), BAD);
            same(says + " one less", x.chain(-1, 1), BAD);
            same(says + " one more", x.lifted(1, 0, n), BAD);
            same(says + " one less", x.lifted(1, 0, -1), BAD);
            same(says + " the last", x.lifted(1, 0, n - 1), 1);
            same(says + " the first", x.lifted(1, 1, 0), 1);
            Edge.faultAt(says, head + "thing ^" + n + " 1;");
            Edge.faultAt(says, head + "thing 0 1;task 0 ^" + n + ";");
        }
        Edge.faultAt(says, "rooms ^1;");
        Edge.faultAt(says, "rooms ^7;");
        Edge.faultAt(says, "rooms ^0;");
        Edge.faultAt(says, "rooms ^10;");
        Edge.faultAt(says, "rooms ^20;");
        Edge.faultAt(says, "rooms ^99;");
    }

    private static void fourRoomsAtFirst() {
        String says = "4 at first";
        FiveThings x = Check.told("rooms 6;thing 5 1;");
        Check.type(x, "thing 3 1;task 0 3;");
        same(says + " again", x.house(), 2);
        same(says + " again", x.count(0), 4);
        Check.type(x, "rooms 2;");
        x.house();
        Check.type(x, "thing 3 1;");
        same(says + " also behind fewer", x.house(), 1);
        same(says + " also behind fewer", x.count(0), 4);
        Edge.faultAt(says, "thing ^4 1;");
        Edge.faultAt(says, "thing 3 1;task 0 ^4;");
        FiveThings y = new FiveThings();
        same(says + " the last", y.chain(3, 1), NONE);
        same(says + " one more", y.chain(4, 1), BAD);
    }

    private static void fourPeopleAtMost() {
        String says = "PEOPLE 0 .. (4 at most)";
        for (int n = 0; n <= 4; n++) {
            FiveThings x = Edge.read(says, Edge.times(n, "person 5 2;"), n);
            same(says + " so many", x.count(1), n);
            for (int p = 0; p < n; p++) {
                same(says + " one of " + n, x.person(p, 0), 5);
            }
            for (int p = n; p <= 5; p++) {
                same(says + " nobody of " + n, x.person(p, 0), BAD);
                same(says + " nobody of " + n, x.dropped(p), BAD);
                same(says + " nobody of " + n, x.rate(0, p), FiveThings.NO);
            }
            same(says + " below", x.person(-1, 0), BAD);
        }
        Edge.faultAt("a fifth person", Edge.times(4, "person 5 2;") + "^person 5 2;");
        Edge.faultAt("a fifth person", Edge.times(4, "person 5 2;") + "^person");
        Edge.faultAt("a fifth person", Edge.times(4, "person 5 2;") + "thing 0 1; ^person 0 0");
        Edge.faultAt("a fifth person", "rooms 2;" + Edge.times(4, "person 5 2;") + "^person 5 2;");
    }

    private static void liftsOneToNine() {
        String says = "LIFTS a day (1 .. 9)";
        for (int n = 1; n <= 9; n++) {
            FiveThings x = Edge.read(says, "person " + n + " 0;", 1);
            same(says, x.person(0, 0), n);
            same("LEFT .. (all at first)", x.person(0, 2), n);
        }
        Edge.faultAt(says, "person ^0 0;");
        Edge.faultAt(says, "person ^10 0;");
        Edge.faultAt(says, "person ^99 0;");
        Edge.faultAt(says, "person 1 1;person ^0 0;");
    }

    private static void pricesNoneToNine() {
        String says = "a PRICE for each (0 .. 9)";
        for (int n = 0; n <= 9; n++) {
            same(says, Edge.read(says, "person 1 " + n + ";", 1).person(0, 1), n);
        }
        Edge.faultAt(says, "person 1 ^10;");
        Edge.faultAt(says, "person 1 ^90;");
        Edge.faultAt(says, "person 1 ^99;");
    }

    private static void eightThingsAtMost() {
        String says = "THINGS 0 .. (8 at most)";
        for (int n = 0; n <= 8; n++) {
            FiveThings x = Edge.read(says, "person 9 0;" + Edge.times(n, "thing 1 2;"), n + 1);
            same(says + " so many", x.count(2), n);
            for (int t = 0; t < n; t++) {
                same(says + " one of " + n, x.thing(t, 1), 2);
            }
            for (int t = n; t <= 9; t++) {
                same(says + " none of " + n, x.thing(t, 0), BAD);
                same(says + " none of " + n, x.untied(t), BAD);
                same(says + " none of " + n, x.lifted(1, t, 0), BAD);
            }
            same(says + " below", x.thing(-1, 0), BAD);
            same(says + " below", x.untied(-1), BAD);
            same(says + " below", x.lifted(1, -1, 0), BAD);
        }
        Edge.faultAt("a ninth thing", Edge.times(8, "thing 0 1;") + "^thing 0 1;");
        Edge.faultAt("a ninth thing", Edge.times(8, "thing 0 1;") + "^thing");
        Edge.faultAt("a ninth thing", Edge.times(8, "thing 0 1;") + "task 7 1;person 1 1;^thing 9 9;");
    }

    private static void thingsInARoom() {
        String says = "THINGS .. : a ROOM";
        FiveThings x = Edge.read(says, "rooms 6;thing 0 1;thing 1 1;thing 2 1;thing 3 1;thing 4 1;thing 5 1;", 7);
        for (int t = 0; t < 6; t++) {
            same(says, x.thing(t, 0), t);
        }
        Edge.faultAt(says, "rooms 6;thing ^6 1;");
        Edge.faultAt(says, "rooms 6;thing ^99 1;");
    }

    private static void handsOneToThree() {
        String says = "HANDS (1 .. 3";
        for (int n = 1; n <= 3; n++) {
            same(says, Edge.read(says, "thing 0 " + n + ";", 1).thing(0, 1), n);
        }
        Edge.faultAt(says, "thing 0 ^0;");
        Edge.faultAt(says, "thing 0 ^4;");
        Edge.faultAt(says, "thing 0 ^10;");
        Edge.faultAt(says, "thing 0 ^99;");
    }

    private static void tasks() {
        String says = "TASKS: THINGS that must be in a ROOM";
        FiveThings none = Edge.read(says, Edge.times(8, "thing 0 1;"), 8);
        same(says + " none", none.count(3), 0);
        same(says + " none", none.thing(7, 2), NONE);
        StringBuilder all = new StringBuilder(Edge.times(8, "thing 0 1;"));
        for (int t = 0; t < 8; t++) {
            all.append("task ").append(t).append(" ").append(t % 4).append(";");
        }
        FiveThings x = Edge.read(says, all.toString(), 16);
        same(says + " all", x.count(3), 8);
        for (int t = 0; t < 8; t++) {
            same(says + " all", x.thing(t, 2), t % 4);
        }
        FiveThings y = Edge.read(says, "thing 2 1;task 0 2;", 2);
        same(says + " where it is", y.count(3), 1);
        same(says + " where it is", y.due(0), 0);
    }

    private static void taskToldAgain() {
        String says = "told again: the later one counts";
        FiveThings x = Edge.read(says, "thing 0 1;thing 0 1;task 0 1;task 1 2;task 0 3;", 5);
        same(says, x.thing(0, 2), 3);
        same(says, x.thing(1, 2), 2);
        same(says + " once", x.count(3), 2);
        FiveThings y = Edge.read(says, "thing 0 1;task 0 1;task 0 2;task 0 0;", 4);
        same(says, y.thing(0, 2), 0);
        same(says + " once", y.count(3), 1);
        FiveThings z = Edge.read(says, "thing 0 1;task 0 1;thing 3 2;task 0 1;", 4);
        same(says + " the same", z.thing(0, 2), 1);
        Edge.faultAt(says, "thing 0 1;task 0 1;task 0 ^4;");
    }

    private static void typeOneToEightBytes() {
        String says = "The lowest n (1 .. 8) bytes of v";
        for (int n = 1; n <= 8; n++) {
            FiveThings x = new FiveThings();
            same(says, x.type(0x2020202020202020L, n), n);
            same(says, x.type(0x2020202020202020L, n), 2 * n);
            same(says, x.count(6), 2 * n);
        }
        int[] wrong = {0, 9, -1, 10, 16, 64, -8};
        for (int n : wrong) {
            Edge.unchanged(says + " n " + n, Edge::busy, x -> x.type(59, n), BAD);
        }
    }

    private static void typeTheLowestTheHighestFirst() {
        String says = "The lowest n bytes of v, the highest of them first";
        String text = "person 9";
        for (int n = 1; n <= 8; n++) {
            FiveThings x = new FiveThings();
            Check.type(x, text.substring(0, 8 - n));
            long v = n == 8 ? 0 : -1L;
            for (int i = 8 - n; i < 8; i++) {
                v = v << 8 | text.charAt(i);
            }
            same(says, x.type(v, n), 8);
            same(says, x.type(0x2039_3bL, 3), 11);
            same(says + " n " + n, x.house(), 1);
            same(says + " n " + n, x.person(0, 0), 9);
        }
        FiveThings y = new FiveThings();
        same("a byte of 0 comes, too", y.type(0, 8), 8);
        same("a byte of 255 comes, too", y.type(-1L, 8), 16);
        same("a byte of 0 begins none", y.house(), -10);
        y.clear();
        y.type(Long.MIN_VALUE, 8);
        same("a byte of 128 begins none", y.house(), -10);
    }

    private static FiveThings typed(int bytes) {
        return Edge.busy(" ".repeat(bytes));
    }

    private static void textOf300() {
        String says = "a text (300 bytes at most)";
        for (int n = 1; n <= 8; n++) {
            int size = n;
            FiveThings x = typed(300 - n);
            same(says + " just full by " + n, x.type(0x2020202020202020L, n), 300);
            same(says + " just full by " + n, x.count(6), 300);
            Edge.unchanged(says + " one too many by " + n, () -> typed(301 - size), y -> y.type(59, size), FULL);
            Edge.unchanged(says + " full", () -> typed(300), y -> y.type(59, size), FULL);
        }
        FiveThings z = typed(299);
        same(says + " eight don't go in", z.type(0, 8), FULL);
        same(says + " one does", z.type(32, 1), 300);
        same(says + " then none", z.type(32, 1), FULL);
        same(says + " emptied", z.clear(), 300);
        same(says + " eight go in again", z.type(0, 8), 8);
    }

    private static void textOf300IsRead() {
        String says = "a text (300 bytes at most), read byte by byte";
        FiveThings x = Edge.read(says, " ".repeat(289) + "person 7 3;", 1);
        same(says + " the last byte ends an ITEM", x.person(0, 0), 7);
        Edge.faultAt(says, " ".repeat(299) + "x", 299);
        Edge.faultAt(says, " ".repeat(288) + "person 7 3;;", 299);
        Edge.faultAt(says, " ".repeat(290) + "person 7 3", 300);
        Edge.faultAt(says, "thing 0 1;" + "task 0 1;".repeat(32) + " ;", 299);
        Edge.read(says, "thing 0 1;" + "task 0 1;".repeat(32), 33);
        Edge.read(says, " ".repeat(300), 0);
        FiveThings y = typed(300);
        same(says + " and empty then", y.house(), 0);
        same(says + " and empty then", y.type(32, 8), 8);
    }

    private static void clearEmptyAndFull() {
        String says = "THE TEXT is empty: how many bytes it had";
        FiveThings x = new FiveThings();
        same(says, x.clear(), 0);
        x.type(0, 1);
        same(says, x.clear(), 1);
        same(says + " empty", x.clear(), 0);
        FiveThings y = typed(300);
        same(says + " full", y.clear(), 300);
        same(says + " full", y.count(6), 0);
        FiveThings z = Edge.busy("rooms ");
        z.clear();
        Check.type(z, "rooms 3;");
        same(says + " nothing stays of it", z.house(), 1);
        Edge.unchanged(says + " and nothing else is changed", () -> Edge.busy(""), FiveThings::clear, 0);
        FiveThings v = Edge.busy("abc");
        v.clear();
        Check.alike(says + " and nothing else is changed", Edge.all(v), Edge.all(Edge.busy("")));
    }

    private static void blanks() {
        String says = "blanks (32) between TOKENS";
        Edge.read(says, "  rooms   3   ;   person  1  0 ; ", 2);
        Edge.read(says, "rooms 3;person 1 0;", 2);
        Edge.read(says, " ", 0);
        Edge.read(says, "rooms3;", 1);
        FiveThings x = Edge.read(says, "person 1 0 ;thing 0 1;", 2);
        same(says, x.person(0, 1), 0);
        Edge.faultAt(says, "person 1^ 0;".replace(" 0", "\t0"));
        Edge.faultAt(says, "^\nrooms 3;");
        Edge.faultAt(says, "rooms 3;^\n");
        Edge.faultAt(says, "rooms 3;  ^\r");
        Edge.faultAt(says, "rooms^" + (char) 160 + "3;");
        Edge.faultAt(says, "^ro oms 3;");
        Edge.faultAt(says, "person 1 1 ^0;");
        Edge.faultAt(says, "person ^11;");
        Edge.faultAt(says, "^personthing 1 1;");
    }

    private static void everyByteBetween() {
        String says = "every byte between two NUMBERS, but a blank, is a FAULT";
        for (int b = 0; b < 256; b++) {
            String text = "person 1" + (char) b + "1;";
            if (b == 32) {
                Edge.read(says, text, 1);
            } else {
                Edge.faultAt(says + " " + b, text, b >= '0' && b <= '9' ? 7 : 8);
            }
        }
    }

    private static void everyByteAtTheEnd() {
        String says = "ITEMS, each ended by ; and by no other byte";
        for (int b = 0; b < 256; b++) {
            String text = "rooms 2" + (char) b;
            if (b == ';') {
                Edge.read(says, text, 1);
            } else {
                Edge.faultAt(says + " " + b, text, b == 32 ? 8 : b >= '0' && b <= '9' ? 6 : 7);
            }
        }
    }

    private static void itemsEnded() {
        String says = "ITEMS, each ended by ;";
        Edge.faultAt(says, "rooms 2 ^person 1 1;");
        Edge.faultAt(says, "person 1 1 ^thing 0 1;");
        Edge.faultAt(says, "thing 0 1;task 0 1 ^task 0 2;");
        Edge.faultAt(says, "^;");
        Edge.faultAt(says, "  ^;rooms 2;");
        Edge.faultAt(says, "rooms 2;^;");
        Edge.faultAt(says, "person 1 1; ^;");
        Edge.faultAt(says, "rooms^;");
        Edge.faultAt(says, "person^;");
        Edge.faultAt(says, "thing^;");
        Edge.faultAt(says, "task^;");
    }

    private static void roomsFirstOfAll() {
        String says = "rooms N (the first of all, if it is told)";
        same(says, Edge.read(says, "rooms 5;person 1 1;", 2).count(0), 5);
        same(says + " it is not", Edge.read(says, "person 1 1;", 1).count(0), 4);
        Edge.faultAt("rooms behind another ITEM", "person 1 1;^rooms 5;");
        Edge.faultAt("rooms behind another ITEM", "thing 1 1;^rooms 5;");
        Edge.faultAt("rooms behind another ITEM", "thing 1 1;task 0 0;^rooms 5;");
        Edge.faultAt("rooms behind another ITEM", "rooms 5;^rooms 5;");
        Edge.faultAt("rooms behind another ITEM", "rooms 5;person 1 1;^rooms");
    }

    private static void numbersOfAnItem() {
        String says = "rooms N ; person L P ; thing R H ; task T R";
        Edge.faultAt(says, "rooms 2 ^3;");
        Edge.faultAt(says, "person 1^;");
        Edge.faultAt(says, "person 1 2 ^3;");
        Edge.faultAt(says, "thing 0^;");
        Edge.faultAt(says, "thing 0 1 ^1;");
        Edge.faultAt(says, "thing 0 1;task 0^;");
        Edge.faultAt(says, "thing 0 1;task 0 1 ^1;");
        Edge.faultAt(says, "rooms ^rooms;");
        Edge.faultAt(says, "person ^person 1;");
        Edge.faultAt(says, "person 1 ^thing;");
        Edge.faultAt(says, "thing ^task 1;");
        Edge.faultAt(says, "thing 0 ^rooms;");
        Edge.faultAt(says, "thing 0 1;task ^thing 0;");
        Edge.faultAt(says, "thing 0 1;task 0 ^task;");
        Edge.faultAt(says, "^3;");
        Edge.faultAt(says, "rooms 3;^3 1;");
    }

    private static void wordsOfLetters() {
        String says = "words of letters a .. z (rooms, person, thing, task)";
        String[] items = {"rooms 2;", "person 1 1;", "thing 0 1;", "task 0 1;"};
        String[] words = {"rooms", "person", "thing", "task"};
        for (int w = 0; w < words.length; w++) {
            String ahead = w == 3 ? "thing 0 1;" : "";
            Edge.read(says, ahead + items[w], w == 3 ? 2 : 1);
            for (int i = 0; i < words[w].length(); i++) {
                spoilLetter(says, ahead, items[w], i);
            }
            for (int letter = 'a'; letter <= 'z'; letter++) {
                Edge.faultAt(says, ahead + "^" + words[w] + (char) letter + items[w].substring(words[w].length()));
            }
        }
    }

    private static void spoilLetter(String says, String ahead, String item, int i) {
        String before = item.substring(0, i);
        char letter = item.charAt(i);
        String behind = item.substring(i + 1);
        Edge.faultAt(says + " one missing", ahead + "^" + before + behind);
        Edge.faultAt(says + " one doubled", ahead + "^" + before + letter + letter + behind);
        Edge.faultAt(says + " another", ahead + "^" + before + (letter == 'q' ? 'z' : 'q') + behind);
        Edge.faultAt(says + " a capital", ahead + "^" + before + Character.toUpperCase(letter) + behind);
    }

    private static void wordsThatAreNone() {
        String says = "a word that is none of these";
        Edge.faultAt(says, "^a");
        Edge.faultAt(says, "^z 1;");
        Edge.faultAt(says, "^room 2;");
        Edge.faultAt(says, "^people 1 1;");
        Edge.faultAt(says, "^things 0 1;");
        Edge.faultAt(says, "rooms 2; ^tasks 0 0;");
        Edge.faultAt(says, "rooms ^two;");
        Edge.faultAt(says, "person 1 ^o;");
        Edge.faultAt(says, "person 1 1^x;");
        Edge.faultAt(says, "^" + "person".repeat(40) + " 1 1;");
    }

    /** Each first byte: a blank alone is no FAULT; the place does not tell what it was, but what follows does not count. */
    private static void bytesThatBeginNone() {
        String says = "of a byte that begins none .. that TOKEN's";
        for (int b = 0; b < 256; b++) {
            String text = "thing 0 1; " + (char) b + " ;";
            Edge.faultAt(says + " " + b, text, b == 32 ? 13 : 11);
        }
        Edge.faultAt(says, "person ^-1 1;");
        Edge.faultAt(says, "person ^+1 1;");
        Edge.faultAt(says, "person 1^.5 1;");
        Edge.faultAt(says, "person 1^, 1;");
        Edge.faultAt(says, "rooms 2^:");
        Edge.faultAt(says, "rooms ^/;");
        Edge.faultAt(says, "^`ooms 2;");
        Edge.faultAt(says, "^{ooms 2;");
        Edge.faultAt(says, "rooms^@ 2;");
        Edge.faultAt(says, "rooms^{ 2;");
    }

    private static void numbersAbove99() {
        String says = "a NUMBER above 99";
        String[] numbers = {"99", "100", "101", "109", "200", "999", "1000", "10000000000", "4294967297", "4294967298",
            "18446744073709551617", "18446744073709551618", "340282366920938463463374607431768211457"};
        for (String number : numbers) {
            Edge.faultAt(says, "rooms ^" + number + ";");
            Edge.faultAt(says, "person ^" + number + " 1;");
            Edge.faultAt(says, "person 1 ^" + number + ";");
            Edge.faultAt(says, "thing ^" + number + " 1;");
            Edge.faultAt(says, "thing 0 ^" + number + ";");
            Edge.faultAt(says, "thing 0 1;thing 0 1;thing 0 1;task ^" + number + " 1;");
            Edge.faultAt(says, "thing 0 1;task 0 ^" + number + ";");
            Edge.faultAt(says, "rooms 2 ^" + number + ";");
            Edge.faultAt(says, "^" + number);
        }
        Edge.faultAt(says, "person ^" + "1".repeat(290) + ";");
    }

    private static void numbersWithAZeroAhead() {
        String says = "a NUMBER .. with a 0 ahead of others";
        Edge.faultAt(says, "rooms ^02;");
        Edge.faultAt(says, "person ^01 1;");
        Edge.faultAt(says, "person ^001 1;");
        Edge.faultAt(says, "person 1 ^00;");
        Edge.faultAt(says, "person 1 ^01;");
        Edge.faultAt(says, "person 1 ^09;");
        Edge.faultAt(says, "person 1 ^000;");
        Edge.faultAt(says, "thing ^00 1;");
        Edge.faultAt(says, "thing 0 ^01;");
        Edge.faultAt(says, "thing 0 1;task ^00 1;");
        Edge.faultAt(says, "thing 0 1;task 0 ^01;");
        same("a 0 by itself is a NUMBER", Edge.read(says, "person 1 0;", 1).person(0, 1), 0);
        same("a 0 by itself is a NUMBER", Edge.read(says, "thing 0 1;task 0 0;", 2).thing(0, 2), 0);
    }

    private static void thingsNotTold() {
        String says = "a T that was not told";
        Edge.faultAt(says, "task ^0 0;");
        Edge.faultAt(says, "thing 0 1;task ^1 0;");
        Edge.faultAt(says, "task ^0 0;thing 0 1;");
        Edge.faultAt(says, "thing 0 1;task ^1 0;thing 0 1;");
        Edge.faultAt(says, Edge.times(8, "thing 0 1;") + "task ^8 0;");
        Edge.faultAt(says, Edge.times(7, "thing 0 1;") + "task ^7 0;");
        Edge.read(says, Edge.times(8, "thing 0 1;") + "task 7 0;", 9);
        Edge.read(says, "thing 0 1;task 0 0;", 2);
    }

    private static void theFirstFaultCounts() {
        String says = "the first TOKEN that can't stand there";
        Edge.faultAt(says, "rooms ^7 x;");
        Edge.faultAt(says, "rooms ^x 7;");
        Edge.faultAt(says, "person ^0 99;rooms 2;");
        Edge.faultAt(says, "person 1 ^10 !");
        Edge.faultAt(says, "^x !");
        Edge.faultAt(says, "^!x");
        Edge.faultAt(says, "thing 0 1;^rooms 100;");
        Edge.faultAt(says, "thing ^100 0");
        Edge.faultAt(says, "rooms 2;thing ^2 4;task 0 9");
    }

    private static void textThatEndsTooEarly() {
        String says = "the text's length, if it ends too early";
        String text = "thing 0 1;task 0 3;";
        int[] due = {0, -10, -10, -10, -10, -15, -16, -17, -18, -19, 1,
            -20, -20, -20, -24, -25, -26, -27, -28, 2};
        for (int n = 0; n < due.length; n++) {
            String begun = text.substring(0, n);
            if (due[n] >= 0) {
                Edge.read(says, begun, due[n]);
            } else {
                Edge.faultAt(says, begun, -10 - due[n]);
            }
        }
        Edge.faultAt(says, "rooms^");
        Edge.faultAt(says, "rooms  ^");
        Edge.faultAt(says, "rooms 6^");
        Edge.faultAt(says, "rooms 6 ^");
        Edge.faultAt(says, "person^");
        Edge.faultAt(says, "person 9^");
        Edge.faultAt(says, "person 9 ^");
        Edge.faultAt(says, "person 9 9^");
        Edge.faultAt(says, "person 9 9   ^");
        Edge.faultAt(says, "rooms 6;person^");
        Edge.read("it ends as it may behind an ITEM", "rooms 6;", 1);
        Edge.read("it ends as it may behind an ITEM", "rooms 6;  ", 1);
    }

    private static void aFaultLeavesTheText() {
        String says = "-10 less FAULT: nothing changes";
        FiveThings x = Edge.busy("rooms 2;person 7");
        same(says, x.house(), -26);
        same(says + " the text stays", x.count(6), 16);
        same(says, x.house(), -26);
        same(says + " it can go on", x.type(0x20383bL, 3), 19);
        same(says + " it can go on", x.house(), 2);
        same(says + " it is told then", x.person(0, 1), 8);
        Edge.faultAt(says + " behind all that can be told", "rooms 6;" + Edge.times(4, "person 9 9;")
                + Edge.times(8, "thing 5 3;") + "task 0 4;task 7 4;^;");
        FiveThings y = new FiveThings();
        Check.type(y, "rooms 6;person 9 9;thing 5 3;task 0 4;x");
        same(says, y.house(), -48);
        same(says + " of a new one", y.count(0), 4);
        same(says + " of a new one", y.count(1) + y.count(2) + y.count(3), 0);
        y.clear();
        Check.type(y, "thing 0 1;");
        same(says + " nothing stays of it", y.house(), 1);
        same(says + " nothing stays of it", y.thing(0, 2), NONE);
        same(says + " nothing stays of it", y.count(1), 0);
    }

    private static void readAnew() {
        String says = "Read anew: as told, DAY 0, IMAGES are gone";
        String text = "rooms 5;person 3 4;person 2 0;thing 0 1;thing 0 2;task 1 3;";
        FiveThings anew = Edge.busy(text);
        same(says, anew.house(), 6);
        FiveThings fresh = Check.told(text);
        for (int i = 0; i < 101; i++) {
            fresh.rate(4, 0);
            if (i < 100) {
                anew.rate(4, 0);
            }
        }
        Check.alike(says, Edge.all(anew), Edge.all(fresh));
        FiveThings x = Edge.busy("");
        same(says + " an image before", x.moved(1, 0) >= 0 ? 1 : 0, 1);
        x.house();
        same(says + " DAY", x.count(5), 0);
        for (int image = 0; image <= 1; image++) {
            same(says + " image", x.back(image), FiveThings.STATE);
            same(says + " image", x.moved(image, 0), FiveThings.STATE);
            same(says + " image", x.moved(image, 1), FiveThings.STATE);
        }
    }

    private static void theEmptyText() {
        String says = "THE TEXT tells all, and is empty then (an empty one: as a new object)";
        FiveThings x = Edge.busy("");
        same(says, x.house(), 0);
        int[] due = {4, 0, 0, 0, 0, 0, 0};
        for (int what = 0; what < due.length; what++) {
            same(says, x.count(what), due[what]);
        }
        same(says, x.person(0, 0), BAD);
        same(says, x.thing(0, 0), BAD);
        same(says + " again", x.house(), 0);
    }

    private static void whatOfOne() {
        String says = "Of one: 0 LIFTS a day, 1 PRICE, 2 what is LEFT";
        FiveThings x = Check.told("person 5 7;");
        x.dropped(0);
        int[] due = {BAD, 5, 7, 4, BAD};
        for (int what = -1; what <= 3; what++) {
            same(says + " " + what, x.person(0, what), due[what + 1]);
        }
        FiveThings y = Check.told("person 1 0;");
        y.dropped(0);
        same(says + " none", y.person(0, 2), 0);
    }

    private static void whatOfAThing() {
        String says = "Of a THING: 0 its ROOM NOW, 1 HANDS, 2 where its TASK wants it (NONE), 3 its BUNDLE (NONE)";
        FiveThings x = Check.told("person 9 0;person 9 0;thing 1 2;thing 1 1;thing 2 1;task 1 0;");
        x.tied(0, 3);
        x.lifted(3, 1, 3);
        int[][] due = {{BAD, 3, 2, NONE, 0, BAD}, {BAD, 3, 1, 0, 0, BAD}, {BAD, 2, 1, NONE, NONE, BAD}};
        for (int t = 0; t < due.length; t++) {
            for (int what = -1; what <= 4; what++) {
                same(says + " " + t + " " + what, x.thing(t, what), due[t][what + 1]);
            }
        }
    }

    private static void whatIsCounted() {
        String says = "0 ROOMS, 1 PEOPLE, 2 THINGS, 3 TASKS, 4 BUNDLES, 5 the DAY, 6 bytes of THE TEXT";
        FiveThings x = Check.told("rooms 6;" + Edge.times(4, "person 9 0;") + Edge.times(8, "thing 0 1;")
                + "task 0 1;task 7 0;");
        x.tied(0, 3);
        x.tied(0, 12);
        x.tied(0, 48);
        x.tied(0, 192);
        x.slept();
        x.type(0, 7);
        int[] due = {BAD, 6, 4, 8, 2, 4, 1, 7, BAD};
        for (int what = -1; what <= 7; what++) {
            same(says + " " + what, x.count(what), due[what + 1]);
        }
        x.untied(7);
        same(says + " one untied", x.count(4), 3);
    }
}
