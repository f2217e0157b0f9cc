import java.util.ArrayList;
import java.util.Arrays;
import java.util.HashSet;
import java.util.List;
import java.util.Random;
import java.util.Set;
import java.util.TreeMap;

/** Long runs of random calls, each answer held against a second, slow program written from the document's words. */
public final class ModelTest {
    private static final int RUNS = 400, CALLS = 512;
    private static final int UNKNOWN = -1, OUTSIDE = -2, STATE = -3, FULL = -4, NONE = -9;
    private static final int[] WILD = {-1, -2, -9, 5, 10, 11, 14, 15, 41, 100, 1000, 1024,
        Integer.MIN_VALUE, Integer.MAX_VALUE, 1 << 30, -1024};

    private static int wrong = 0;
    private static final Set<String> SEEN = new HashSet<>();

    public static void main(String[] args) {
        for (int run = 0; run < RUNS && wrong < 20; run++) {
            new Run(run).go();
        }
        mustHaveSeen();
        System.out.println(wrong == 0 ? "all answers are as the model's" : wrong + " answers are not as the model's");
        if (wrong != 0) {
            System.exit(1);
        }
    }

    /** A run that never comes to some answer proves nothing about it. */
    private static void mustHaveSeen() {
        String[] due = {"walk -1", "walk -2", "walk -3", "walk -4", "walk 13", "unwalk -3", "unwalk 0", "open -1",
            "open 0", "open 1", "ofWalk -1", "ofWalk -2", "ofWalk 9", "name -1", "name -4", "name 4", "moves -1",
            "moves 9", "entrance -1", "entrance 0", "entrance 1", "detour -2", "detour 0", "board -1", "board -3",
            "board -9", "board 9", "unboard -1", "unboard -3", "unboard 9", "arrow -1", "arrow -9", "arrow 9",
            "far -1", "far -2", "far -9", "far 0", "far 9", "from -1", "from 0", "follow -1", "follow -2",
            "follow -9", "follow 0", "follow 1", "follow 2", "follow 3", "follow 4", "ends -2", "ends 0", "ends 5",
            "those -1", "those -2", "those 0", "idle -1", "idle 0", "idle 3", "mend -2", "mend -9", "mend 9",
            "leads -1", "leads -2", "leads 0", "leads 1", "fewest -1", "fewest -9", "fewest 0", "posts -9",
            "posts 0", "many -2", "many 0", "many 14"};
        for (String answer : due) {
            if (!SEEN.contains(answer)) {
                wrong++;
                System.out.println("no run came to the answer: " + answer);
            }
        }
    }

    private static final class Run {
        private final int number;
        private final Random random;
        private final WaySigns real = new WaySigns();
        private final Model model = new Model();
        private final StringBuilder told = new StringBuilder();

        Run(int number) {
            this.number = number;
            this.random = new Random(7919L * number + 13);
        }

        void go() {
            int calls = 0;
            boolean full = number % 3 != 0;
            if (full) {
                int walks = 6 + random.nextInt(9);
                for (int i = 0; i < walks; i++) {
                    calls += call(0);
                }
                int names = 1 + random.nextInt(3);
                for (int i = 0; i < names; i++) {
                    calls += call(4);
                }
                for (int i = 0; i < 3; i++) {
                    calls += call(6);
                }
            }
            while (calls < CALLS && wrong < 20) {
                calls += call(kind());
            }
        }

        private int kind() {
            int kind = random.nextInt(22);
            boolean dear = kind == 20 || kind == 19 || kind == 17;
            boolean undoes = kind == 1 || kind == 2;
            return (dear || undoes) && random.nextInt(3) > 0 ? 14 : kind;
        }

        private int pick(int bound) {
            return random.nextInt(40) == 0 ? WILD[random.nextInt(WILD.length)] : random.nextInt(bound);
        }

        private int somePlace() {
            return pick(10);
        }

        private int someName() {
            int names = model.names.size();
            return pick(names == 0 || random.nextInt(30) == 0 ? 6 : names);
        }

        /** Mostly a place to which a walk leads, so that boards come to stand. */
        private int nextTo(int place) {
            List<Integer> next = new ArrayList<>();
            for (int[] w : model.walks) {
                if (w[0] == place) {
                    next.add(w[1]);
                } else if (w[1] == place) {
                    next.add(w[0]);
                }
            }
            return next.isEmpty() || random.nextInt(10) == 0 ? somePlace() : next.get(random.nextInt(next.size()));
        }

        private int what() {
            return random.nextInt(3) == 0 ? pick(4) : random.nextInt(4) == 0 ? pick(52) : 10 + random.nextInt(12);
        }

        private int call(int kind) {
            int a = somePlace();
            int n = someName();
            boolean is = random.nextInt(3) > 0;
            switch (kind) {
                case 0: {
                    int b = somePlace();
                    int length = random.nextInt(8) == 0 ? pick(101) : 1 + random.nextInt(9);
                    return same("walk", real.walk(a, b, length), model.walk(a, b, length), a, b, length);
                }
                case 1: return same("unwalk", real.unwalk(), model.unwalk());
                case 2: {
                    int k = pick(14);
                    return same("open", real.open(k, is), model.open(k, is), k, is);
                }
                case 3: {
                    int k = pick(14);
                    int w = pick(5);
                    return same("ofWalk", real.ofWalk(k, w), model.ofWalk(k, w), k, w);
                }
                case 4: return same("name", real.name(a), model.name(a), a);
                case 5: return same("moves", real.moves(n, a), model.moves(n, a), n, a);
                case 6: return same("entrance", real.entrance(a, is), model.entrance(a, is), a, is);
                case 7: {
                    int v = random.nextInt(4) > 0 ? pick(15) : pick(1001);
                    return same("detour", real.detour(v), model.detour(v), v);
                }
                case 8:
                case 9: {
                    int to = nextTo(a);
                    return same("board", real.board(a, n, to), model.board(a, n, to), a, n, to);
                }
                default: return ask(kind, a, n);
            }
        }

        private int ask(int kind, int a, int n) {
            int five = pick(5);
            int three = pick(3);
            switch (kind) {
                case 10: return same("unboard", real.unboard(a, n), model.unboard(a, n), a, n);
                case 11: return same("arrow", real.arrow(a, n), model.arrow(a, n), a, n);
                case 12: return same("far", real.far(a, n, three), model.far(a, n, three), a, n, three);
                case 13: return same("from", real.from(a), model.from(a), a);
                case 14: {
                    int w = what();
                    return same("follow", real.follow(a, n, w), model.follow(a, n, w), a, n, w);
                }
                case 15: return same("ends", real.ends(five), model.ends(five), five);
                case 16: return same("those", real.those(n, five), model.those(n, five), n, five);
                case 17: return same("mend", real.mend(three), model.mend(three), three);
                case 18: {
                    int set = random.nextBoolean() ? pick(1024) : model.goodSet(random, n);
                    return same("leads", real.leads(set, n), model.leads(set, n), set, n);
                }
                case 19: return same("fewest", real.fewest(n), model.fewest(n), n);
                case 20: return same("posts", real.posts(), model.posts());
                default: {
                    if (random.nextBoolean()) {
                        return same("idle", real.idle(a), model.idle(a), a);
                    }
                    int w = pick(8);
                    return same("many", real.many(w), model.many(w), w);
                }
            }
        }

        private int same(String call, int got, int want, Object... arguments) {
            SEEN.add(call + " " + want);
            told.append(call).append(Arrays.toString(arguments)).append(" = ").append(want).append('\n');
            if (got != want) {
                wrong++;
                System.out.println("run " + number + ":\n" + told + "but " + call + " answered " + got);
            }
            return 1;
        }
    }

    /** How one who follows went. */
    private static final class Way {
        final List<Integer> places = new ArrayList<>();
        int length = 0;
        int ending = -1;

        boolean sameAs(Way that) {
            return ending == that.ending && places.equals(that.places);
        }
    }

    private static final class Model {
        final List<int[]> walks = new ArrayList<>();
        final List<Integer> names = new ArrayList<>();
        /** For each name: at which place a board stands, and where its arrow leads. */
        final List<TreeMap<Integer, Integer>> boards = new ArrayList<>();
        final Set<Integer> entrances = new HashSet<>();
        int detour = 0;

        private boolean noPlace(int p) {
            return p < 0 || p > 9;
        }

        private boolean noName(int n) {
            return n < 0 || n >= names.size();
        }

        private int[] between(int a, int b) {
            for (int[] w : walks) {
                if (w[0] == a && w[1] == b || w[0] == b && w[1] == a) {
                    return w;
                }
            }
            return null;
        }

        /** The place beyond an open walk, seen from a place; -1 if it does not lead from there or is closed. */
        private int beyond(int[] w, int p) {
            if (w[3] == 0) {
                return -1;
            }
            return w[0] == p ? w[1] : w[1] == p ? w[0] : -1;
        }

        int walk(int a, int b, int length) {
            if (noPlace(a) || noPlace(b) || a == b) {
                return UNKNOWN;
            }
            if (length < 1 || length > 99) {
                return OUTSIDE;
            }
            if (between(a, b) != null) {
                return STATE;
            }
            if (walks.size() == 14) {
                return FULL;
            }
            walks.add(new int[] {a, b, length, 1});
            return walks.size() - 1;
        }

        int unwalk() {
            if (walks.isEmpty()) {
                return STATE;
            }
            walks.remove(walks.size() - 1);
            return walks.size();
        }

        int open(int k, boolean is) {
            if (k < 0 || k >= walks.size()) {
                return UNKNOWN;
            }
            int was = walks.get(k)[3];
            walks.get(k)[3] = is ? 1 : 0;
            return was == walks.get(k)[3] ? 0 : 1;
        }

        int ofWalk(int k, int what) {
            if (k < 0 || k >= walks.size()) {
                return UNKNOWN;
            }
            int[] w = walks.get(k);
            int[] told = {Math.min(w[0], w[1]), Math.max(w[0], w[1]), w[2], w[3]};
            return what < 0 || what > 3 ? OUTSIDE : told[what];
        }

        int name(int place) {
            if (noPlace(place)) {
                return UNKNOWN;
            }
            if (names.size() == 5) {
                return FULL;
            }
            names.add(place);
            boards.add(new TreeMap<>());
            return names.size() - 1;
        }

        int moves(int n, int place) {
            return noName(n) || noPlace(place) ? UNKNOWN : names.set(n, place);
        }

        int entrance(int place, boolean is) {
            if (noPlace(place)) {
                return UNKNOWN;
            }
            return (is ? entrances.add(place) : entrances.remove(place)) ? 1 : 0;
        }

        int detour(int v) {
            if (v < 0 || v > 999) {
                return OUTSIDE;
            }
            int was = detour;
            detour = v;
            return was;
        }

        int board(int place, int n, int to) {
            if (noPlace(place) || noName(n) || noPlace(to)) {
                return UNKNOWN;
            }
            if (between(place, to) == null) {
                return STATE;
            }
            Integer was = boards.get(n).put(place, to);
            return was == null ? NONE : was;
        }

        int unboard(int place, int n) {
            if (noPlace(place) || noName(n)) {
                return UNKNOWN;
            }
            Integer was = boards.get(n).remove(place);
            return was == null ? STATE : was;
        }

        int arrow(int place, int n) {
            return noPlace(place) || noName(n) ? UNKNOWN : boards.get(n).getOrDefault(place, NONE);
        }

        /** By trying every way that comes to no place twice; -1 if none leads there. */
        private int distance(int place, int goal, Set<Integer> been) {
            if (place == goal) {
                return 0;
            }
            int least = -1;
            been.add(place);
            for (int[] w : walks) {
                int next = beyond(w, place);
                if (next >= 0 && !been.contains(next)) {
                    int rest = distance(next, goal, been);
                    if (rest >= 0 && (least < 0 || rest + w[2] < least)) {
                        least = rest + w[2];
                    }
                }
            }
            been.remove(place);
            return least;
        }

        private int best(int place, int goal) {
            int far = distance(place, goal, new HashSet<>());
            if (far <= 0) {
                return NONE;
            }
            for (int next = 0; next < 10; next++) {
                int[] w = between(place, next);
                if (w != null && w[3] == 1) {
                    int rest = distance(next, goal, new HashSet<>());
                    if (rest >= 0 && rest + w[2] == far) {
                        return next;
                    }
                }
            }
            throw new IllegalStateException("far, but no way there");
        }

        private int[] bests(int n) {
            int[] row = new int[10];
            for (int p = 0; p < 10; p++) {
                row[p] = best(p, names.get(n));
            }
            return row;
        }

        private int[] distances(int n) {
            int[] row = new int[10];
            for (int p = 0; p < 10; p++) {
                row[p] = distance(p, names.get(n), new HashSet<>());
            }
            return row;
        }

        int far(int place, int n, int what) {
            if (noPlace(place) || noName(n)) {
                return UNKNOWN;
            }
            if (what != 0 && what != 1) {
                return OUTSIDE;
            }
            int far = distance(place, names.get(n), new HashSet<>());
            return far < 0 ? NONE : what == 0 ? far : best(place, names.get(n));
        }

        int from(int place) {
            if (noPlace(place)) {
                return UNKNOWN;
            }
            int set = 0;
            for (int[] w : walks) {
                if (beyond(w, place) >= 0) {
                    set += 1 << beyond(w, place);
                }
            }
            return set;
        }

        /** All by numbers of walks, as the document tells it. */
        private Way wayOf(int start, int goal, TreeMap<Integer, Integer> arrows) {
            Way way = new Way();
            boolean[] cameBy = new boolean[walks.size() * 10];
            int place = start;
            int by = -1;
            way.places.add(place);
            while (way.ending < 0) {
                Integer to = arrows.get(place);
                int taken = -1;
                int several = 0;
                for (int k = 0; k < walks.size(); k++) {
                    int next = beyond(walks.get(k), place);
                    if (next >= 0 && (to != null ? next == to : k != by)) {
                        taken = k;
                        several++;
                    }
                }
                if (place == goal) {
                    way.ending = 0;
                } else if (several == 0) {
                    way.ending = to != null ? 3 : 2;
                } else if (several > 1) {
                    way.ending = 1;
                } else {
                    place = beyond(walks.get(taken), place);
                    by = taken;
                    way.places.add(place);
                    way.length += walks.get(taken)[2];
                    if (cameBy[taken * 10 + place]) {
                        way.ending = 4;
                    }
                    cameBy[taken * 10 + place] = true;
                }
            }
            return way;
        }

        int follow(int place, int n, int what) {
            if (noPlace(place) || noName(n)) {
                return UNKNOWN;
            }
            if (what < 0 || what > 3 && what < 10 || what > 50) {
                return OUTSIDE;
            }
            Way way = wayOf(place, names.get(n), boards.get(n));
            int last = way.places.size() - 1;
            if (what >= 10) {
                return what - 10 <= last ? way.places.get(what - 10) : NONE;
            }
            return new int[] {way.ending, last, way.length, way.places.get(last)}[what];
        }

        private List<Way> followersOf(int n, TreeMap<Integer, Integer> arrows) {
            List<Way> ways = new ArrayList<>();
            for (int place : entrances) {
                ways.add(wayOf(place, names.get(n), arrows));
            }
            return ways;
        }

        int ends(int how) {
            if (how < 0 || how > 4) {
                return OUTSIDE;
            }
            int count = 0;
            for (int n = 0; n < names.size(); n++) {
                for (Way way : followersOf(n, boards.get(n))) {
                    count += way.ending == how ? 1 : 0;
                }
            }
            return count;
        }

        int those(int n, int how) {
            if (noName(n)) {
                return UNKNOWN;
            }
            if (how < 0 || how > 4) {
                return OUTSIDE;
            }
            int set = 0;
            for (int p = 9; p >= 0; p--) {
                set = 2 * set + (wayOf(p, names.get(n), boards.get(n)).ending == how ? 1 : 0);
            }
            return set;
        }

        int idle(int place) {
            if (noPlace(place)) {
                return UNKNOWN;
            }
            int set = 0;
            for (int n = 0; n < names.size(); n++) {
                TreeMap<Integer, Integer> without = new TreeMap<>(boards.get(n));
                if (without.remove(place) != null) {
                    List<Way> now = followersOf(n, boards.get(n));
                    List<Way> then = followersOf(n, without);
                    boolean same = true;
                    for (int i = 0; i < now.size(); i++) {
                        same &= now.get(i).sameAs(then.get(i));
                    }
                    set += same ? 1 << n : 0;
                }
            }
            return set;
        }

        int mend(int what) {
            if (what < 0 || what > 2) {
                return OUTSIDE;
            }
            int most = ends(0);
            int[] found = {NONE, NONE, NONE};
            int[][] rows = new int[names.size()][];
            for (int n = 0; n < rows.length; n++) {
                rows[n] = bests(n);
            }
            for (int p = 0; p < 10; p++) {
                for (int n = 0; n < names.size(); n++) {
                    if (!boards.get(n).containsKey(p) && rows[n][p] != NONE) {
                        boards.get(n).put(p, rows[n][p]);
                        int arrived = ends(0);
                        boards.get(n).remove(p);
                        if (arrived > most) {
                            most = arrived;
                            found = new int[] {p, n, arrived};
                        }
                    }
                }
            }
            return found[what];
        }

        private boolean leadsTo(int set, int n, int[] best, int[] distance) {
            TreeMap<Integer, Integer> arrows = new TreeMap<>();
            for (int p = 0; p < 10; p++) {
                if ((set & 1 << p) != 0) {
                    if (best[p] == NONE) {
                        return false;
                    }
                    arrows.put(p, best[p]);
                }
            }
            for (int place : entrances) {
                Way way = wayOf(place, names.get(n), arrows);
                if (way.ending != 0 || way.length > distance[place] + detour) {
                    return false;
                }
            }
            return true;
        }

        /** A set that has a chance to lead: some places among those that have a best. */
        int goodSet(Random random, int n) {
            if (noName(n)) {
                return 0;
            }
            int set = 0;
            int[] best = bests(n);
            for (int p = 0; p < 10; p++) {
                set |= best[p] != NONE && random.nextInt(4) > 0 ? 1 << p : 0;
            }
            return set;
        }

        int leads(int set, int n) {
            if (noName(n)) {
                return UNKNOWN;
            }
            if (set < 0 || set > 1023) {
                return OUTSIDE;
            }
            return leadsTo(set, n, bests(n), distances(n)) ? 1 : 0;
        }

        int fewest(int n) {
            if (noName(n)) {
                return UNKNOWN;
            }
            int[] best = bests(n);
            int[] distance = distances(n);
            int found = NONE;
            for (int set = 0; set < 1024; set++) {
                if ((found == NONE || Integer.bitCount(set) < Integer.bitCount(found))
                        && leadsTo(set, n, best, distance)) {
                    found = set;
                }
            }
            return found;
        }

        int posts() {
            int[][] best = new int[names.size()][];
            int[][] distance = new int[names.size()][];
            for (int n = 0; n < names.size(); n++) {
                best[n] = bests(n);
                distance[n] = distances(n);
            }
            int found = NONE;
            for (int set = 0; set < 1024; set++) {
                if (found == NONE || Integer.bitCount(set) < Integer.bitCount(found)) {
                    boolean all = true;
                    for (int n = 0; n < names.size() && all; n++) {
                        int kept = 0;
                        for (int p = 0; p < 10; p++) {
                            kept |= best[n][p] != NONE ? set & 1 << p : 0;
                        }
                        all = leadsTo(kept, n, best[n], distance[n]);
                    }
                    found = all ? set : found;
                }
            }
            return found;
        }

        int many(int what) {
            int open = 0;
            for (int[] w : walks) {
                open += w[3];
            }
            int count = 0;
            Set<Integer> places = new HashSet<>();
            for (TreeMap<Integer, Integer> row : boards) {
                count += row.size();
                places.addAll(row.keySet());
            }
            int[] told = {walks.size(), open, names.size(), entrances.size(), count, places.size(), detour};
            return what < 0 || what > 6 ? OUTSIDE : told[what];
        }
    }
}
