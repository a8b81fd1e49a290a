/**
 * Five things a day: a house of people, things and tasks that a text tells, what is lifted and tied in it
 * from one sleep to the next, and what can still be done today.
 */
public final class FiveThings {
    public static final int BAD = -1, STATE = -2, FULL = -3, NONE = -9;
    public static final int NO = -1000000;

    private static final int MOST_BYTES = 300;
    private static final int BLANK = 32;
    private static final int LEAST_ROOMS = 2, ROOMS_AT_FIRST = 4, MOST_ROOMS = 6;
    private static final int MOST_PEOPLE = 4, MOST_LIFTS = 9, MOST_PRICE = 9;
    private static final int SETS_OF_PEOPLE = 1 << MOST_PEOPLE;
    private static final int MOST_THINGS = 8, MOST_HANDS = 3;
    private static final int LAST_DAY = 99;
    private static final int MOST_GAPS = 9;
    private static final int FAULT_BASE = -10;

    private final Text text;
    private final House told;
    private final House draft;
    private final Reader reader;
    private final Now now;
    private final Now firstImage;
    private final Now secondImage;
    private final Work work;
    private final Ways ways;
    private long traced;

    public FiveThings() {
        text = new Text();
        told = new House();
        draft = new House();
        reader = new Reader(text, draft);
        now = new Now();
        firstImage = new Now();
        secondImage = new Now();
        work = new Work(told, now);
        ways = new Ways();
        traced = 0;
    }

    // ---- the house

    public int type(long v, int n) {
        if (n < 1 || n > 8) {
            return BAD;
        }
        if (n > MOST_BYTES - text.length) {
            return FULL;
        }
        text.add(v, n);
        return text.length;
    }

    public int clear() {
        int had = text.length;
        text.empty();
        return had;
    }

    public int house() {
        // A draft is read, so that a fault leaves all as it was.
        int items = reader.read();
        if (items < 0) {
            return items;
        }
        told.become(draft);
        now.begin(told);
        firstImage.kept = false;
        secondImage.kept = false;
        text.empty();
        return items;
    }

    public int person(int p, int what) {
        if (!told.hasPerson(p)) {
            return BAD;
        }
        switch (what) {
            case 0:
                return told.lifts[p];
            case 1:
                return told.prices[p];
            case 2:
                return now.left[p];
            default:
                return BAD;
        }
    }

    public int thing(int t, int what) {
        if (!told.hasThing(t)) {
            return BAD;
        }
        switch (what) {
            case 0:
                return now.room[t];
            case 1:
                return told.hands[t];
            case 2:
                return told.wanted[t];
            case 3:
                return now.bundle[t];
            default:
                return BAD;
        }
    }

    // ---- a day

    public int lifted(int people, int t, int room) {
        if (!told.hasAllPeople(people) || !told.hasThing(t) || !told.hasRoom(room)) {
            return BAD;
        }
        int job = now.jobOf(t);
        if (now.room[t] == room || Integer.bitCount(people) != told.handsOf(job) || !now.allHaveLeft(people)) {
            return STATE;
        }
        now.spend(people);
        now.carry(job, room);
        return Integer.bitCount(job);
    }

    public int tied(int p, int things) {
        if (!told.hasPerson(p) || !told.hasAllThings(things) || Integer.bitCount(things) < 2) {
            return BAD;
        }
        if (now.left[p] < 1 || !now.canBeTied(things)) {
            return STATE;
        }
        now.spend(1 << p);
        int bundle = least(things);
        now.setBundle(things, bundle);
        return bundle;
    }

    public int untied(int t) {
        if (!told.hasThing(t)) {
            return BAD;
        }
        if (now.bundle[t] == NONE) {
            return STATE;
        }
        int job = now.jobOf(t);
        now.setBundle(job, NONE);
        return Integer.bitCount(job);
    }

    public int dropped(int p) {
        if (!told.hasPerson(p)) {
            return BAD;
        }
        if (now.left[p] < 1) {
            return STATE;
        }
        now.spend(1 << p);
        return now.left[p];
    }

    public int slept() {
        if (now.day >= LAST_DAY) {
            return STATE;
        }
        now.rest(told);
        now.day++;
        return now.day;
    }

    // ---- what can be done

    public int fewest(int what) {
        if (what != 0 && what != 1) {
            return BAD;
        }
        if (work.isBarred()) {
            return NONE;
        }
        return what == 0 ? work.fewestLifts() : work.newBundles();
    }

    public int can() {
        if (work.isBarred()) {
            return NONE;
        }
        return work.canBeDone() ? 1 : 0;
    }

    public int cheap() {
        return work.isBarred() ? NONE : work.leastCost();
    }

    public int leastPeople() {
        return work.isBarred() ? NONE : work.leastSet();
    }

    public int lost() {
        return work.isBarred() ? NONE : work.lostThings();
    }

    public int due(int what) {
        switch (what) {
            case 0:
                return work.dueJobs();
            case 1:
                return work.barredThings();
            default:
                return BAD;
        }
    }

    public int moved(int image, int what) {
        if (!isImage(image) || (what != 0 && what != 1)) {
            return BAD;
        }
        Now then = imageOf(image);
        if (!then.kept) {
            return STATE;
        }
        int things = now.elsewhereThan(then);
        return what == 0 ? things : ways.ofCarrying(Integer.bitCount(things), told);
    }

    public int chain(int room, int k) {
        if (!told.hasRoom(room) || k < 1 || k > MOST_GAPS) {
            return BAD;
        }
        int strongest = told.mostLifts();
        if (strongest < 1) {
            return NONE;
        }
        int hands = told.handsTogether(now.thingsIn(room));
        return (hands + strongest - 1) / strongest * k;
    }

    // ---- kinds, images

    public int rate(int kind, int p) {
        if (!told.hasPerson(p)) {
            return NO;
        }
        switch (kind) {
            case 0:
                return asPerson(p);
            case 1:
                return asPorter(p);
            case 2:
                return asThief(p);
            case 3:
                return asLawyer(p);
            case 4:
                return asMaid(p);
            case 5:
                return asChild(p);
            default:
                return NO;
        }
    }

    public int keep(int image) {
        if (!isImage(image)) {
            return BAD;
        }
        Now then = imageOf(image);
        then.become(now);
        then.kept = true;
        return then.day;
    }

    public int back(int image) {
        if (!isImage(image)) {
            return BAD;
        }
        Now then = imageOf(image);
        if (!then.kept) {
            return STATE;
        }
        now.become(then);
        return now.day;
    }

    public int count(int what) {
        switch (what) {
            case 0:
                return told.rooms;
            case 1:
                return told.people;
            case 2:
                return told.things;
            case 3:
                return told.tasks();
            case 4:
                return now.bundles();
            case 5:
                return now.day;
            case 6:
                return text.length;
            default:
                return BAD;
        }
    }

    public long trace() {
        return traced;
    }

    private static boolean isImage(int image) {
        return image == 0 || image == 1;
    }

    private Now imageOf(int image) {
        return image == 0 ? firstImage : secondImage;
    }

    private static boolean has(int bits, int i) {
        return (bits >> i & 1) == 1;
    }

    private static int least(int things) {
        for (int t = 0; t < MOST_THINGS; t++) {
            if (has(things, t)) {
                return t;
            }
        }
        return NONE;
    }

    // The six kinds trust rate() that p is one of the people.

    private int asPerson(int p) {
        traced += 1;
        return now.left[p];
    }

    private int asPorter(int p) {
        traced += 10;
        return asPerson(p) + told.lifts[p];
    }

    private int asThief(int p) {
        traced += 100;
        return asPerson(p) - told.prices[p];
    }

    private int asLawyer(int p) {
        traced += 1000;
        return 2 * asPorter(p);
    }

    private int asMaid(int p) {
        traced += 10000;
        return asThief(p) + p;
    }

    private int asChild(int p) {
        traced += 100000;
        return asPerson(p) + now.day;
    }

    /** THE TEXT, and the TOKEN of it that is looked at. */
    private static final class Text {
        private static final int END = 0, WORD = 1, NUMBER = 2, STOP = 3, WRONG = 4;

        private final byte[] bytes = new byte[MOST_BYTES];
        private int length = 0;
        private int token = END;
        private int place = 0;
        private int after = 0;
        private int value = 0;

        void add(long v, int n) {
            for (int i = n - 1; i >= 0 && length < MOST_BYTES; i--) {
                bytes[length] = (byte) (v >> (8 * i));
                length++;
            }
        }

        void empty() {
            length = 0;
        }

        void toFirst() {
            after = 0;
            toNext();
        }

        /** An END has the text's length as its place, as a FAULT there must. */
        void toNext() {
            place = endOfRun(after, BLANK, BLANK);
            int wordEnd = endOfRun(place, 'a', 'z');
            int digitsEnd = endOfRun(place, '0', '9');
            if (place >= length) {
                token = END;
            } else if (wordEnd > place) {
                token = WORD;
                after = wordEnd;
            } else if (digitsEnd > place) {
                after = digitsEnd;
                takeNumber();
            } else if (bytes[place] == ';') {
                token = STOP;
                after = place + 1;
            } else {
                token = WRONG;
            }
        }

        boolean isWord(String word) {
            if (token != WORD || after - place != word.length()) {
                return false;
            }
            for (int i = 0; i < word.length() && place + i < length; i++) {
                if (bytes[place + i] != word.charAt(i)) {
                    return false;
                }
            }
            return true;
        }

        boolean isNumber(int least, int most) {
            return token == NUMBER && value >= least && value <= most;
        }

        private int endOfRun(int start, int low, int high) {
            int end = start;
            while (end >= 0 && end < length && bytes[end] >= low && bytes[end] <= high) {
                end++;
            }
            return end;
        }

        /** A third digit makes it more than 99, or stands behind a 0. */
        private void takeNumber() {
            int digits = after - place;
            if (digits > 2 || (digits == 2 && bytes[place] == '0')) {
                token = WRONG;
                return;
            }
            token = NUMBER;
            value = 0;
            for (int i = place; i < after; i++) {
                value = 10 * value + bytes[i] - '0';
            }
        }
    }

    /** Reads THE TEXT into a house; where it stops, the text's TOKEN is the one that can't stand there. */
    private static final class Reader {
        private static final int NOT_THERE = -1;

        private final Text text;
        private final House house;

        Reader(Text text, House house) {
            this.text = text;
            this.house = house;
        }

        /** How many ITEMS, or -10 less FAULT. */
        int read() {
            house.empty();
            text.toFirst();
            for (int items = 0; items <= MOST_BYTES; items++) {
                if (text.token == Text.END) {
                    return items;
                }
                if (!readItem(items == 0)) {
                    break;
                }
            }
            return FAULT_BASE - text.place;
        }

        private boolean readItem(boolean isFirst) {
            if (text.isWord("rooms")) {
                return isFirst && readRooms();
            }
            if (text.isWord("person")) {
                return house.people < MOST_PEOPLE && readPerson();
            }
            if (text.isWord("thing")) {
                return house.things < MOST_THINGS && readThing();
            }
            return text.isWord("task") && readTask();
        }

        private boolean readRooms() {
            text.toNext();
            int rooms = number(LEAST_ROOMS, MOST_ROOMS);
            if (rooms == NOT_THERE) {
                return false;
            }
            house.rooms = rooms;
            return stop();
        }

        private boolean readPerson() {
            text.toNext();
            int lifts = number(1, MOST_LIFTS);
            if (lifts == NOT_THERE) {
                return false;
            }
            int price = number(0, MOST_PRICE);
            if (price == NOT_THERE) {
                return false;
            }
            house.addPerson(lifts, price);
            return stop();
        }

        private boolean readThing() {
            text.toNext();
            int room = number(0, house.rooms - 1);
            if (room == NOT_THERE) {
                return false;
            }
            int hands = number(1, MOST_HANDS);
            if (hands == NOT_THERE) {
                return false;
            }
            house.addThing(room, hands);
            return stop();
        }

        private boolean readTask() {
            text.toNext();
            int thing = number(0, house.things - 1);
            if (thing == NOT_THERE) {
                return false;
            }
            int room = number(0, house.rooms - 1);
            if (room == NOT_THERE) {
                return false;
            }
            house.want(thing, room);
            return stop();
        }

        private int number(int least, int most) {
            if (!text.isNumber(least, most)) {
                return NOT_THERE;
            }
            int value = text.value;
            text.toNext();
            return value;
        }

        private boolean stop() {
            if (text.token != Text.STOP) {
                return false;
            }
            text.toNext();
            return true;
        }
    }

    /** What a text tells; a row's places beyond the count are nobody and nothing. */
    private static final class House {
        private int rooms = ROOMS_AT_FIRST;
        private int people = 0;
        private int things = 0;
        private final int[] lifts = new int[MOST_PEOPLE];
        private final int[] prices = new int[MOST_PEOPLE];
        private final int[] starts = new int[MOST_THINGS];
        private final int[] hands = new int[MOST_THINGS];
        private final int[] wanted = new int[MOST_THINGS];

        void empty() {
            rooms = ROOMS_AT_FIRST;
            people = 0;
            things = 0;
        }

        void become(House other) {
            rooms = other.rooms;
            people = other.people;
            things = other.things;
            System.arraycopy(other.lifts, 0, lifts, 0, MOST_PEOPLE);
            System.arraycopy(other.prices, 0, prices, 0, MOST_PEOPLE);
            System.arraycopy(other.starts, 0, starts, 0, MOST_THINGS);
            System.arraycopy(other.hands, 0, hands, 0, MOST_THINGS);
            System.arraycopy(other.wanted, 0, wanted, 0, MOST_THINGS);
        }

        void addPerson(int liftsADay, int price) {
            if (people < MOST_PEOPLE) {
                lifts[people] = liftsADay;
                prices[people] = price;
                people++;
            }
        }

        void addThing(int room, int handsNeeded) {
            if (things < MOST_THINGS) {
                starts[things] = room;
                hands[things] = handsNeeded;
                wanted[things] = NONE;
                things++;
            }
        }

        void want(int t, int room) {
            if (hasThing(t)) {
                wanted[t] = room;
            }
        }

        boolean hasRoom(int room) {
            return room >= 0 && room < rooms;
        }

        boolean hasPerson(int p) {
            return p >= 0 && p < people;
        }

        boolean hasThing(int t) {
            return t >= 0 && t < things;
        }

        boolean hasAllPeople(int bits) {
            return bits >>> people == 0;
        }

        boolean hasAllThings(int bits) {
            return bits >>> things == 0;
        }

        int tasks() {
            int tasks = 0;
            for (int t = 0; t < things; t++) {
                if (wanted[t] != NONE) {
                    tasks++;
                }
            }
            return tasks;
        }

        /** The HANDS that these THINGS need as one. */
        int handsOf(int bits) {
            int most = 0;
            for (int t = 0; t < things; t++) {
                if (has(bits, t)) {
                    most = Math.max(most, hands[t]);
                }
            }
            return most;
        }

        int handsTogether(int bits) {
            int sum = 0;
            for (int t = 0; t < things; t++) {
                if (has(bits, t)) {
                    sum += hands[t];
                }
            }
            return sum;
        }

        int mostLifts() {
            int most = 0;
            for (int p = 0; p < people; p++) {
                most = Math.max(most, lifts[p]);
            }
            return most;
        }
    }

    /** How all stands: NOW itself, or an IMAGE of it. Places of no THING are in no ROOM and never tied. */
    private static final class Now {
        private final int[] room = new int[MOST_THINGS];
        private final int[] bundle = new int[MOST_THINGS];
        private final int[] left = new int[MOST_PEOPLE];
        private int day = 0;
        private boolean kept = false;

        Now() {
            for (int t = 0; t < MOST_THINGS; t++) {
                room[t] = NONE;
                bundle[t] = NONE;
            }
        }

        void begin(House house) {
            for (int t = 0; t < MOST_THINGS; t++) {
                room[t] = house.hasThing(t) ? house.starts[t] : NONE;
                bundle[t] = NONE;
            }
            rest(house);
            day = 0;
        }

        void rest(House house) {
            for (int p = 0; p < MOST_PEOPLE; p++) {
                left[p] = house.hasPerson(p) ? house.lifts[p] : 0;
            }
        }

        void become(Now other) {
            System.arraycopy(other.room, 0, room, 0, MOST_THINGS);
            System.arraycopy(other.bundle, 0, bundle, 0, MOST_THINGS);
            System.arraycopy(other.left, 0, left, 0, MOST_PEOPLE);
            day = other.day;
        }

        /** The THINGS that are lifted with this one, itself among them. */
        int jobOf(int t) {
            int job = 1 << t;
            for (int other = 0; other < MOST_THINGS; other++) {
                if (bundle[t] != NONE && bundle[other] == bundle[t]) {
                    job |= 1 << other;
                }
            }
            return job;
        }

        /** Whether a JOB is counted at this THING, so that each is counted once. */
        boolean leadsJob(int t) {
            return bundle[t] == NONE || bundle[t] == t;
        }

        int bundles() {
            int bundles = 0;
            for (int t = 0; t < MOST_THINGS; t++) {
                if (bundle[t] == t) {
                    bundles++;
                }
            }
            return bundles;
        }

        boolean canBeTied(int things) {
            int where = NONE;
            for (int t = 0; t < MOST_THINGS; t++) {
                if (has(things, t)) {
                    if (bundle[t] != NONE || (where != NONE && room[t] != where)) {
                        return false;
                    }
                    where = room[t];
                }
            }
            return true;
        }

        void setBundle(int things, int number) {
            for (int t = 0; t < MOST_THINGS; t++) {
                if (has(things, t)) {
                    bundle[t] = number;
                }
            }
        }

        void carry(int things, int to) {
            for (int t = 0; t < MOST_THINGS; t++) {
                if (has(things, t)) {
                    room[t] = to;
                }
            }
        }

        int thingsIn(int where) {
            int things = 0;
            for (int t = 0; t < MOST_THINGS; t++) {
                if (room[t] == where) {
                    things |= 1 << t;
                }
            }
            return things;
        }

        int elsewhereThan(Now other) {
            int things = 0;
            for (int t = 0; t < MOST_THINGS; t++) {
                if (room[t] != other.room[t]) {
                    things |= 1 << t;
                }
            }
            return things;
        }

        int peopleWithLeft() {
            int able = 0;
            for (int p = 0; p < MOST_PEOPLE; p++) {
                if (left[p] > 0) {
                    able |= 1 << p;
                }
            }
            return able;
        }

        int leftTogether(int people) {
            int sum = 0;
            for (int p = 0; p < MOST_PEOPLE; p++) {
                if (has(people, p)) {
                    sum += left[p];
                }
            }
            return sum;
        }

        boolean allHaveLeft(int people) {
            return (people & ~peopleWithLeft()) == 0;
        }

        void spend(int people) {
            for (int p = 0; p < MOST_PEOPLE; p++) {
                if (has(people, p)) {
                    left[p]--;
                }
            }
        }
    }

    /** What is DUE, and by whom and how cheaply it can be done. */
    private static final class Work {
        private final House house;
        private final Now now;
        /** How many liftings k people can share if nobody tires: each once at a JOB, no more than its HANDS. */
        private final int[] shared = new int[MOST_PEOPLE + 1];

        Work(House house, Now now) {
            this.house = house;
            this.now = now;
        }

        int dueJobs() {
            int jobs = 0;
            for (int t = 0; t < house.things; t++) {
                if (leadsDueJob(t)) {
                    jobs++;
                }
            }
            return jobs;
        }

        boolean isBarred() {
            return barredThings() != 0;
        }

        int barredThings() {
            int barred = 0;
            for (int t = 0; t < house.things; t++) {
                int job = now.jobOf(t);
                if (isWantedInUnlikeRooms(job)) {
                    barred |= job;
                }
            }
            return barred;
        }

        private boolean isWantedInUnlikeRooms(int job) {
            int where = NONE;
            for (int t = 0; t < house.things; t++) {
                if (has(job, t) && house.wanted[t] != NONE) {
                    if (where != NONE && house.wanted[t] != where) {
                        return true;
                    }
                    where = house.wanted[t];
                }
            }
            return false;
        }

        private boolean leadsDueJob(int t) {
            return now.leadsJob(t) && isDue(now.jobOf(t));
        }

        private boolean isDue(int job) {
            for (int t = 0; t < house.things; t++) {
                if (has(job, t) && house.wanted[t] != NONE && house.wanted[t] != now.room[t]) {
                    return true;
                }
            }
            return false;
        }

        /** All THINGS of one way are tied, or none: another one in the bundle never costs more than by itself. */
        int fewestLifts() {
            int lifts = bundleLifts();
            for (int from = 0; from < house.rooms; from++) {
                for (int to = 0; to < house.rooms; to++) {
                    int loose = looseThings(from, to);
                    lifts += Math.min(house.handsTogether(loose), 1 + house.handsOf(loose));
                }
            }
            return lifts;
        }

        int newBundles() {
            int bundles = 0;
            for (int from = 0; from < house.rooms; from++) {
                for (int to = 0; to < house.rooms; to++) {
                    int loose = looseThings(from, to);
                    if (1 + house.handsOf(loose) < house.handsTogether(loose)) {
                        bundles++;
                    }
                }
            }
            return bundles;
        }

        private int bundleLifts() {
            int lifts = 0;
            for (int t = 0; t < house.things; t++) {
                int job = now.jobOf(t);
                if (now.bundle[t] == t && isDue(job)) {
                    lifts += house.handsOf(job);
                }
            }
            return lifts;
        }

        private int looseThings(int from, int to) {
            int things = 0;
            for (int t = 0; t < house.things; t++) {
                if (from != to && now.bundle[t] == NONE && now.room[t] == from && house.wanted[t] == to) {
                    things |= 1 << t;
                }
            }
            return things;
        }

        boolean canBeDone() {
            fillShared();
            return canDoAll(everybody());
        }

        /** Whoever is cheapest does as much as he can, then the next: no exchange between two makes it cheaper. */
        int leastCost() {
            fillShared();
            if (!canDoAll(everybody())) {
                return NONE;
            }
            int asked = 0;
            int done = 0;
            int cost = 0;
            for (int price = 0; price <= MOST_PRICE; price++) {
                for (int p = 0; p < house.people; p++) {
                    if (house.prices[p] == price) {
                        asked |= 1 << p;
                        int withHim = mostLiftings(asked);
                        cost += price * (withHim - done);
                        done = withHim;
                    }
                }
            }
            return cost;
        }

        int leastSet() {
            fillShared();
            int best = NONE;
            for (int people = 0; people <= everybody(); people++) {
                boolean isFewer = best == NONE || Integer.bitCount(people) < Integer.bitCount(best);
                if (isFewer && canDoAll(people)) {
                    best = people;
                }
            }
            return best;
        }

        int lostThings() {
            int able = Integer.bitCount(now.peopleWithLeft());
            int lost = 0;
            for (int t = 0; t < house.things; t++) {
                int job = now.jobOf(t);
                if (isDue(job) && house.handsOf(job) > able) {
                    lost |= job;
                }
            }
            return lost;
        }

        private int everybody() {
            return (1 << house.people) - 1;
        }

        private void fillShared() {
            for (int k = 0; k <= MOST_PEOPLE; k++) {
                shared[k] = 0;
            }
            for (int t = 0; t < house.things; t++) {
                if (leadsDueJob(t)) {
                    int hands = house.handsOf(now.jobOf(t));
                    for (int k = 0; k <= MOST_PEOPLE; k++) {
                        shared[k] += Math.min(hands, k);
                    }
                }
            }
        }

        private boolean canDoAll(int people) {
            return mostLiftings(people) == shared[MOST_PEOPLE];
        }

        /**
         * The most liftings of DUE JOBS that these people can share. It is a flow from people to JOBS, so it is as
         * much as its least cut: some are held up by the JOBS, all the others by what they have LEFT.
         */
        private int mostLiftings(int people) {
            int least = now.leftTogether(people);
            for (int some = 1; some < SETS_OF_PEOPLE; some++) {
                if ((some & people) == some) {
                    int cut = shared[Integer.bitCount(some)] + now.leftTogether(people & ~some);
                    least = Math.min(least, cut);
                }
            }
            return least;
        }
    }

    /** In how many ways so many THINGS can have been carried. */
    private static final class Ways {
        private final int[] ways = new int[MOST_THINGS + 1];

        int ofCarrying(int things, House house) {
            if (things < 0 || things > MOST_THINGS) {
                return 0;
            }
            ways[0] = 1;
            for (int j = 1; j <= things; j++) {
                ways[j] = 0;
            }
            for (int p = 0; p < house.people; p++) {
                addCarrier(house.lifts[p], things);
            }
            return ways[things];
        }

        /** From the most THINGS down, so that what fewer could do without this one is still there. */
        private void addCarrier(int lifts, int things) {
            for (int j = things; j >= 1; j--) {
                int sum = 0;
                for (int his = 0; his <= j && his <= lifts; his++) {
                    sum += choices(j, his) * ways[j - his];
                }
                ways[j] = sum;
            }
        }

        private static int choices(int all, int some) {
            int choices = 1;
            for (int i = 1; i <= some; i++) {
                choices = choices * (all - some + i) / i;
            }
            return choices;
        }
    }
}
