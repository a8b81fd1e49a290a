import java.util.ArrayList;
import java.util.Arrays;
import java.util.HashSet;
import java.util.List;
import java.util.Set;
import java.util.regex.Matcher;
import java.util.regex.Pattern;

/**
 * The document once more, by trying all ways instead of by rules: what ModelTest holds FiveThings against.
 * Written apart from the class: texts by a regular expression, sets as lists, plans by enumeration.
 */
final class Model {
    private static final int BAD = -1, STATE = -2, FULL = -3, NONE = -9, NO = -1000000;
    private static final Pattern TOKEN = Pattern.compile(" *(?:([a-z]+)|([0-9]+)|(;)|($)|(.))", Pattern.DOTALL);

    /** What an image keeps. */
    private static final class Moment {
        int[] room = {};
        int[] left = {};
        List<Set<Integer>> bundles = new ArrayList<>();
        int day = 0;

        Moment copy() {
            Moment m = new Moment();
            m.room = room.clone();
            m.left = left.clone();
            for (Set<Integer> b : bundles) {
                m.bundles.add(new HashSet<>(b));
            }
            m.day = day;
            return m;
        }
    }

    private String text = "";
    private int rooms = 4;
    private List<int[]> people = new ArrayList<>();
    private List<int[]> things = new ArrayList<>();
    private int[] task = {};
    private Moment now = new Moment();
    private final Moment[] image = new Moment[2];
    private long trace = 0;

    int type(long v, int n) {
        if (n < 1 || n > 8) {
            return BAD;
        }
        if (text.length() + n > 300) {
            return FULL;
        }
        for (int i = n; i > 0; i--) {
            text += (char) (v >>> 8 * (i - 1) & 255);
        }
        return text.length();
    }

    int clear() {
        int n = text.length();
        text = "";
        return n;
    }

    int house() {
        int newRooms = 4;
        List<int[]> newPeople = new ArrayList<>();
        List<int[]> newThings = new ArrayList<>();
        int[] newTask = new int[8];
        Arrays.fill(newTask, NONE);
        int items = 0;
        String item = "";
        List<Integer> numbers = new ArrayList<>();
        Matcher m = TOKEN.matcher(text);
        while (m.find()) {
            int place = m.start(m.group(1) != null ? 1 : m.group(2) != null ? 2
                    : m.group(3) != null ? 3 : m.group(5) != null ? 5 : 4);
            if (m.group(4) != null) {
                if (!item.isEmpty()) {
                    return -10 - place;
                }
                break;
            }
            boolean fits;
            if (item.isEmpty()) {
                String word = m.group(1);
                fits = word != null && (word.equals("rooms") && items == 0
                        || word.equals("person") && newPeople.size() < 4
                        || word.equals("thing") && newThings.size() < 8 || word.equals("task"));
                item = word;
            } else if (numbers.size() == (item.equals("rooms") ? 1 : 2)) {
                fits = m.group(3) != null;
                if (fits) {
                    items++;
                    if (item.equals("rooms")) {
                        newRooms = numbers.get(0);
                    } else if (item.equals("person")) {
                        newPeople.add(new int[] {numbers.get(0), numbers.get(1)});
                    } else if (item.equals("thing")) {
                        newThings.add(new int[] {numbers.get(0), numbers.get(1)});
                    } else {
                        newTask[numbers.get(0)] = numbers.get(1);
                    }
                    numbers.clear();
                    item = "";
                }
            } else {
                String digits = m.group(2);
                fits = digits != null && digits.length() < 3 && (digits.length() == 1 || !digits.startsWith("0"));
                if (fits) {
                    int value = Integer.parseInt(digits);
                    fits = inRange(item, numbers.size(), value, newRooms, newThings.size());
                    numbers.add(value);
                }
            }
            if (!fits) {
                return -10 - place;
            }
        }
        rooms = newRooms;
        people = newPeople;
        things = newThings;
        task = newTask;
        now = new Moment();
        now.room = things.stream().mapToInt(t -> t[0]).toArray();
        now.left = people.stream().mapToInt(p -> p[0]).toArray();
        image[0] = null;
        image[1] = null;
        text = "";
        return items;
    }

    private static boolean inRange(String item, int which, int value, int rooms, int things) {
        switch (item) {
            case "rooms":
                return value >= 2 && value <= 6;
            case "person":
                return value <= 9 && value >= (which == 0 ? 1 : 0);
            case "thing":
                return which == 0 ? value < rooms : value >= 1 && value <= 3;
            default:
                return value < (which == 0 ? things : rooms);
        }
    }

    int person(int p, int what) {
        if (p < 0 || p >= people.size() || what < 0 || what > 2) {
            return BAD;
        }
        return what == 2 ? now.left[p] : people.get(p)[what];
    }

    int thing(int t, int what) {
        if (t < 0 || t >= things.size() || what < 0 || what > 3) {
            return BAD;
        }
        Set<Integer> b = bundleOf(t);
        int[] all = {now.room[t], things.get(t)[1], task[t], b == null ? NONE : least(b)};
        return all[what];
    }

    private static int least(Set<Integer> b) {
        return b.stream().min(Integer::compare).get();
    }

    private Set<Integer> bundleOf(int t) {
        for (Set<Integer> b : now.bundles) {
            if (b.contains(t)) {
                return b;
            }
        }
        return null;
    }

    private Set<Integer> jobOf(int t) {
        Set<Integer> b = bundleOf(t);
        return b == null ? new HashSet<>(List.of(t)) : b;
    }

    private int hands(Set<Integer> job) {
        return job.stream().mapToInt(t -> things.get(t)[1]).max().getAsInt();
    }

    private static Set<Integer> members(int bits) {
        Set<Integer> s = new HashSet<>();
        for (int i = 0; i < 32; i++) {
            if ((bits >>> i & 1) == 1) {
                s.add(i);
            }
        }
        return s;
    }

    private static int bits(Set<Integer> s) {
        return s.stream().mapToInt(i -> 1 << i).sum();
    }

    int lifted(int lifters, int t, int room) {
        Set<Integer> who = members(lifters);
        if (who.stream().anyMatch(p -> p >= people.size()) || t < 0 || t >= things.size() || room < 0
                || room >= rooms) {
            return BAD;
        }
        Set<Integer> job = jobOf(t);
        if (now.room[t] == room || who.size() != hands(job) || who.stream().anyMatch(p -> now.left[p] == 0)) {
            return STATE;
        }
        who.forEach(p -> now.left[p]--);
        job.forEach(j -> now.room[j] = room);
        return job.size();
    }

    int tied(int p, int bits) {
        Set<Integer> set = members(bits);
        if (p < 0 || p >= people.size() || set.size() < 2 || set.stream().anyMatch(t -> t >= things.size())) {
            return BAD;
        }
        if (now.left[p] == 0 || set.stream().anyMatch(t -> bundleOf(t) != null)
                || set.stream().map(t -> now.room[t]).distinct().count() != 1) {
            return STATE;
        }
        now.left[p]--;
        now.bundles.add(set);
        return least(set);
    }

    int untied(int t) {
        if (t < 0 || t >= things.size()) {
            return BAD;
        }
        Set<Integer> b = bundleOf(t);
        if (b == null) {
            return STATE;
        }
        now.bundles.remove(b);
        return b.size();
    }

    int dropped(int p) {
        if (p < 0 || p >= people.size()) {
            return BAD;
        }
        return now.left[p] == 0 ? STATE : --now.left[p];
    }

    int slept() {
        if (now.day == 99) {
            return STATE;
        }
        for (int p = 0; p < people.size(); p++) {
            now.left[p] = people.get(p)[0];
        }
        return ++now.day;
    }

    private Set<Set<Integer>> jobs() {
        Set<Set<Integer>> jobs = new HashSet<>();
        for (int t = 0; t < things.size(); t++) {
            jobs.add(jobOf(t));
        }
        return jobs;
    }

    private List<Set<Integer>> dueJobs() {
        List<Set<Integer>> due = new ArrayList<>();
        for (Set<Integer> job : jobs()) {
            if (job.stream().anyMatch(t -> task[t] != NONE && task[t] != now.room[t])) {
                due.add(job);
            }
        }
        return due;
    }

    private Set<Integer> barred() {
        Set<Integer> all = new HashSet<>();
        for (Set<Integer> job : jobs()) {
            if (job.stream().map(t -> task[t]).filter(r -> r != NONE).distinct().count() > 1) {
                all.addAll(job);
            }
        }
        return all;
    }

    int fewest(int what) {
        if (what < 0 || what > 1) {
            return BAD;
        }
        if (!barred().isEmpty()) {
            return NONE;
        }
        List<Integer> loose = new ArrayList<>();
        int fixed = 0;
        for (Set<Integer> job : dueJobs()) {
            if (job.size() == 1) {
                loose.addAll(job);
            } else {
                fixed += hands(job);
            }
        }
        int[] best = {Integer.MAX_VALUE, 0};
        partition(loose, 0, new ArrayList<>(), best);
        return what == 0 ? fixed + best[0] : best[1];
    }

    /** All partitions of the loose things into groups that go one way: best is {lifts, new bundles}. */
    private void partition(List<Integer> loose, int i, List<List<Integer>> groups, int[] best) {
        if (i == loose.size()) {
            int lifts = 0;
            int made = 0;
            for (List<Integer> g : groups) {
                lifts += hands(new HashSet<>(g)) + (g.size() > 1 ? 1 : 0);
                made += g.size() > 1 ? 1 : 0;
            }
            if (lifts < best[0] || lifts == best[0] && made < best[1]) {
                best[0] = lifts;
                best[1] = made;
            }
            return;
        }
        int t = loose.get(i);
        for (int g = 0; g < groups.size(); g++) {
            int other = groups.get(g).get(0);
            if (now.room[other] == now.room[t] && task[other] == task[t]) {
                groups.get(g).add(t);
                partition(loose, i + 1, groups, best);
                groups.get(g).remove(groups.get(g).size() - 1);
            }
        }
        groups.add(new ArrayList<>(List.of(t)));
        partition(loose, i + 1, groups, best);
        groups.remove(groups.size() - 1);
    }

    /** All vectors of how often each of these people lifts, over all ways to do all due jobs. */
    private Set<List<Integer>> plans(int set) {
        Set<List<Integer>> plans = new HashSet<>();
        plans.add(List.of(0, 0, 0, 0));
        for (Set<Integer> job : dueJobs()) {
            Set<List<Integer>> next = new HashSet<>();
            for (List<Integer> plan : plans) {
                for (int who = 0; who < 16; who++) {
                    if ((who & ~set) == 0 && Integer.bitCount(who) == hands(job)) {
                        List<Integer> more = new ArrayList<>(plan);
                        boolean fits = true;
                        for (int p = 0; p < people.size(); p++) {
                            more.set(p, plan.get(p) + (who >> p & 1));
                            fits &= more.get(p) <= now.left[p];
                        }
                        if (fits) {
                            next.add(more);
                        }
                    }
                }
            }
            plans = next;
        }
        return plans;
    }

    private int everybody() {
        return (1 << people.size()) - 1;
    }

    int can() {
        return !barred().isEmpty() ? NONE : plans(everybody()).isEmpty() ? 0 : 1;
    }

    int cheap() {
        if (!barred().isEmpty()) {
            return NONE;
        }
        int best = NONE;
        for (List<Integer> plan : plans(everybody())) {
            int cost = 0;
            for (int p = 0; p < people.size(); p++) {
                cost += plan.get(p) * people.get(p)[1];
            }
            best = best == NONE ? cost : Math.min(best, cost);
        }
        return best;
    }

    int leastPeople() {
        if (!barred().isEmpty()) {
            return NONE;
        }
        for (int size = 0; size <= people.size(); size++) {
            for (int set = 0; set <= everybody(); set++) {
                if (Integer.bitCount(set) == size && !plans(set).isEmpty()) {
                    return set;
                }
            }
        }
        return NONE;
    }

    int lost() {
        if (!barred().isEmpty()) {
            return NONE;
        }
        long able = Arrays.stream(now.left).filter(l -> l > 0).count();
        int all = 0;
        for (Set<Integer> job : dueJobs()) {
            all |= hands(job) > able ? bits(job) : 0;
        }
        return all;
    }

    int due(int what) {
        return what == 0 ? dueJobs().size() : what == 1 ? bits(barred()) : BAD;
    }

    int moved(int i, int what) {
        if (i < 0 || i > 1 || what < 0 || what > 1) {
            return BAD;
        }
        if (image[i] == null) {
            return STATE;
        }
        Set<Integer> moved = new HashSet<>();
        for (int t = 0; t < things.size(); t++) {
            if (now.room[t] != image[i].room[t]) {
                moved.add(t);
            }
        }
        return what == 0 ? bits(moved) : ways(moved.size(), new int[people.size()]);
    }

    private int ways(int things, int[] carried) {
        if (things == 0) {
            return 1;
        }
        int sum = 0;
        for (int p = 0; p < carried.length; p++) {
            if (carried[p] < people.get(p)[0]) {
                carried[p]++;
                sum += ways(things - 1, carried);
                carried[p]--;
            }
        }
        return sum;
    }

    int chain(int room, int k) {
        if (room < 0 || room >= rooms || k < 1 || k > 9) {
            return BAD;
        }
        if (people.isEmpty()) {
            return NONE;
        }
        int sum = 0;
        for (int t = 0; t < things.size(); t++) {
            sum += now.room[t] == room ? things.get(t)[1] : 0;
        }
        int most = people.stream().mapToInt(p -> p[0]).max().getAsInt();
        return k * (int) Math.ceil(sum / (double) most);
    }

    int rate(int kind, int p) {
        if (kind < 0 || kind > 5 || p < 0 || p >= people.size()) {
            return NO;
        }
        int[] above = {-1, 0, 0, 1, 2, 0};
        long[] mark = {1, 10, 100, 1000, 10000, 100000};
        trace += mark[kind];
        int up = kind == 0 ? 0 : rate(above[kind], p);
        int[] all = {now.left[p], up + people.get(p)[0], up - people.get(p)[1], up + up, up + p, up + now.day};
        return all[kind];
    }

    int keep(int i) {
        if (i < 0 || i > 1) {
            return BAD;
        }
        image[i] = now.copy();
        return now.day;
    }

    int back(int i) {
        if (i < 0 || i > 1) {
            return BAD;
        }
        if (image[i] == null) {
            return STATE;
        }
        now = image[i].copy();
        return now.day;
    }

    int count(int what) {
        if (what < 0 || what > 6) {
            return BAD;
        }
        int tasks = (int) Arrays.stream(task).filter(r -> r != NONE).count();
        int[] all = {rooms, people.size(), things.size(), tasks, now.bundles.size(), now.day, text.length()};
        return all[what];
    }

    long trace() {
        return trace;
    }
}
