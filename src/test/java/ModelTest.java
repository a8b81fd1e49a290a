import java.util.Random;

/** Many runs of calls, always the same ones, whose every answer must be the model's. */
public final class ModelTest {
    private static final int RUNS = 6000;
    /** An object is promised for 512 calls; one step of a run makes far fewer than the rest. */
    private static final int PROMISED = 512, ENOUGH = 380;

    private final Random random;
    private final int run;
    private final FiveThings x = new FiveThings();
    private final Model m = new Model();
    private int rooms = 4, people = 0, things = 0;
    private int calls = 0;

    private ModelTest(int run) {
        this.run = run;
        this.random = new Random(7919L * run);
    }

    public static void main(String[] args) {
        for (int run = 0; run < RUNS && Check.wrong() < 20; run++) {
            new ModelTest(run).go();
        }
        Check.end();
    }

    private void go() {
        tell(wellFormed());
        for (int step = 0; step < ENOUGH && calls < ENOUGH; step++) {
            call();
        }
        Check.holds("run " + run + ": no more calls than are promised", calls <= PROMISED);
    }

    private void same(String call, long got, long due) {
        calls++;
        Check.same("run " + run + ": " + call, got, due);
    }

    private int upTo(int n) {
        return random.nextInt(n + 1);
    }

    /** Mostly an index below n, sometimes one beside. */
    private int index(int n) {
        return n > 0 && upTo(30) > 0 ? random.nextInt(n) : upTo(12) - 3;
    }

    private int set(int n) {
        return upTo(30) > 0 ? random.nextInt(1 << n) : random.nextInt();
    }

    private void tell(String text) {
        type(text);
        same("house() of '" + text + "'", x.house(), m.house());
        rooms = m.count(0);
        people = m.count(1);
        things = m.count(2);
    }

    private void type(String text) {
        int at = 0;
        while (at < text.length()) {
            int n = Math.min(upTo(3) == 0 ? 1 + upTo(7) : 8, text.length() - at);
            long v = n == 8 ? 0 : random.nextLong();
            for (int i = 0; i < n; i++) {
                v = v << 8 | text.charAt(at + i);
            }
            same("type(" + v + ", " + n + ")", x.type(v, n), m.type(v, n));
            at += n;
        }
    }

    private String gap() {
        return upTo(8) == 0 ? "   " : " ";
    }

    private String wellFormed() {
        StringBuilder s = new StringBuilder();
        int r = 4;
        if (upTo(2) > 0) {
            r = 2 + upTo(4);
            s.append("rooms").append(gap()).append(r).append(";");
        }
        int crowd = upTo(4);
        for (int p = 0; p < crowd; p++) {
            s.append("person ").append(1 + (upTo(2) == 0 ? upTo(8) : upTo(3))).append(gap()).append(upTo(9));
            s.append(";");
        }
        int load = upTo(8);
        int spread = upTo(r - 1);
        for (int t = 0; t < load; t++) {
            s.append("thing ").append(upTo(spread)).append(gap()).append(1 + upTo(upTo(2))).append(";");
        }
        int aims = upTo(r - 1);
        for (int t = 0; t < load; t++) {
            if (upTo(5) > 0) {
                s.append("task ").append(t).append(gap()).append(upTo(aims)).append(";");
            }
        }
        return s.toString();
    }

    /** A text with some bytes put in, taken out or made others. */
    private String spoiled() {
        StringBuilder s = new StringBuilder(wellFormed());
        String others = "rooms person thing task 0123456789;;; \tA{`/:\u0000\u00ff";
        int changes = 1 + upTo(2);
        for (int i = 0; i < changes && s.length() > 0; i++) {
            int at = random.nextInt(s.length());
            char c = others.charAt(random.nextInt(others.length()));
            switch (upTo(4)) {
                case 0:
                    s.setCharAt(at, c);
                    break;
                case 1:
                    s.insert(at, c);
                    break;
                case 2:
                    s.deleteCharAt(at);
                    break;
                case 3:
                    s.insert(s.indexOf(";", at) + 1, wellFormed());
                    break;
                default:
                    s.setLength(at);
                    break;
            }
        }
        return s.toString();
    }

    private void call() {
        switch (upTo(11)) {
            case 0:
                lift();
                break;
            case 1:
                lift();
                break;
            case 2:
                askPlans();
                break;
            case 3:
                tie();
                break;
            case 4:
                int t = index(things);
                same("untied(" + t + ")", x.untied(t), m.untied(t));
                break;
            case 5:
                int p = index(people);
                same("dropped(" + p + ")", x.dropped(p), m.dropped(p));
                break;
            case 6:
                images();
                break;
            case 7:
                rates();
                break;
            case 8:
                if (upTo(1) == 0) {
                    same("slept()", x.slept(), m.slept());
                }
                break;
            case 9:
                texts();
                break;
            default:
                look();
                break;
        }
    }

    private void lift() {
        int t = index(things);
        int room = index(rooms);
        int who = set(people);
        // A set of the right size more often than chance gives it.
        for (int i = 0; i < 10 && Integer.bitCount(who) != Math.max(1, m.thing(t, 1)); i++) {
            who = set(people);
        }
        same("lifted(" + who + ", " + t + ", " + room + ")", x.lifted(who, t, room), m.lifted(who, t, room));
    }

    private void tie() {
        int p = index(people);
        int bits = set(things);
        if (upTo(2) > 0) {
            int room = index(rooms);
            for (int t = 0; t < things; t++) {
                if (m.thing(t, 0) != room || m.thing(t, 3) != FiveThings.NONE) {
                    bits &= ~(1 << t);
                }
            }
        }
        same("tied(" + p + ", " + bits + ")", x.tied(p, bits), m.tied(p, bits));
    }

    private void askPlans() {
        for (int what = -1; what <= 2; what++) {
            same("fewest(" + what + ")", x.fewest(what), m.fewest(what));
            same("due(" + what + ")", x.due(what), m.due(what));
        }
        same("can()", x.can(), m.can());
        same("cheap()", x.cheap(), m.cheap());
        same("leastPeople()", x.leastPeople(), m.leastPeople());
        same("lost()", x.lost(), m.lost());
    }

    private void images() {
        int i = upTo(9) == 0 ? upTo(4) - 2 : upTo(1);
        int what = upTo(20) == 0 ? upTo(4) - 2 : upTo(1);
        switch (upTo(5)) {
            case 0:
                same("keep(" + i + ")", x.keep(i), m.keep(i));
                break;
            case 1:
                same("back(" + i + ")", x.back(i), m.back(i));
                break;
            default:
                same("moved(" + i + ", " + what + ")", x.moved(i, what), m.moved(i, what));
                break;
        }
    }

    private void rates() {
        int kind = upTo(8) - 1;
        int p = index(people);
        same("rate(" + kind + ", " + p + ")", x.rate(kind, p), m.rate(kind, p));
        same("trace()", x.trace(), m.trace());
    }

    private void texts() {
        switch (upTo(12)) {
            case 0:
                tell(wellFormed());
                break;
            case 1:
                tell(spoiled());
                same("clear()", x.clear(), m.clear());
                break;
            case 2:
                tell(spoiled());
                break;
            case 3:
                long v = random.nextLong();
                int n = upTo(12) - 2;
                same("type(" + v + ", " + n + ")", x.type(v, n), m.type(v, n));
                break;
            default:
                same("clear()", x.clear(), m.clear());
                break;
        }
    }

    private void look() {
        int room = index(rooms);
        int k = upTo(12) - 1;
        same("chain(" + room + ", " + k + ")", x.chain(room, k), m.chain(room, k));
        for (int what = -1; what <= 7; what++) {
            same("count(" + what + ")", x.count(what), m.count(what));
            int p = index(people);
            same("person(" + p + ", " + what + ")", x.person(p, what), m.person(p, what));
            int t = index(things);
            same("thing(" + t + ", " + what + ")", x.thing(t, what), m.thing(t, what));
        }
    }
}
