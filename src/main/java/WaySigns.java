import java.util.Arrays;

/** Signs that lead: the walks of a building, names that are somewhere, boards with arrows, and who is lost. */
public final class WaySigns {
    public static final int UNKNOWN = -1, OUTSIDE = -2, STATE = -3, FULL = -4, NONE = -9;

    private static final int PLACES = 10, WALKS = 14, NAMES = 5;
    private static final int ALL_PLACES = (1 << PLACES) - 1;
    private static final int LONGEST_WALK = 99, LONGEST_DETOUR = 999;
    private static final int ARRIVED = 0, CHOICE = 1, DEAD_END = 2, BARRED = 3, ROUND = 4;
    private static final int WAY_FROM = 10, WAY_TO = 50;
    // Each walk can be gone once either way; the step after these must be one that was gone before.
    private static final int MOST_STEPS = 2 * WALKS + 1;

    private final Building building;
    private final Guide guide;
    private final Follower follower;
    private final Follower other;
    private final int[] homes;
    private final int[][] boards;
    // Arrows for one name that are tried, and stand nowhere.
    private final int[] trial;
    private int names;
    private int entrances;
    private int slack;
    private int mendPlace;
    private int mendName;
    private int mendArrived;

    public WaySigns() {
        building = new Building();
        guide = new Guide();
        follower = new Follower();
        other = new Follower();
        homes = new int[NAMES];
        boards = new int[NAMES][PLACES];
        for (int n = 0; n < NAMES; n++) {
            Arrays.fill(boards[n], NONE);
        }
        trial = new int[PLACES];
        names = 0;
        entrances = 0;
        slack = 0;
        mendPlace = NONE;
        mendName = NONE;
        mendArrived = NONE;
    }

    // ---- 1 walks, names, boards

    public int walk(int a, int b, int length) {
        if (!isPlace(a) || !isPlace(b) || a == b) {
            return UNKNOWN;
        }
        if (length < 1 || length > LONGEST_WALK) {
            return OUTSIDE;
        }
        if (building.joins(a, b)) {
            return STATE;
        }
        if (building.count >= WALKS) {
            return FULL;
        }
        return building.add(a, b, length);
    }

    public int unwalk() {
        if (building.count < 1) {
            return STATE;
        }
        return building.removeLast();
    }

    public int open(int k, boolean is) {
        if (!building.has(k)) {
            return UNKNOWN;
        }
        return building.turn(k, is) ? 1 : 0;
    }

    public int ofWalk(int k, int what) {
        if (!building.has(k)) {
            return UNKNOWN;
        }
        switch (what) {
            case 0: return building.lesser[k];
            case 1: return building.greater[k];
            case 2: return building.lengths[k];
            case 3: return building.opened[k] ? 1 : 0;
            default: return OUTSIDE;
        }
    }

    public int name(int place) {
        if (!isPlace(place)) {
            return UNKNOWN;
        }
        if (names >= NAMES) {
            return FULL;
        }
        homes[names] = place;
        names++;
        return names - 1;
    }

    public int moves(int n, int place) {
        if (!isName(n) || !isPlace(place)) {
            return UNKNOWN;
        }
        int was = homes[n];
        homes[n] = place;
        return was;
    }

    public int entrance(int place, boolean is) {
        if (!isPlace(place)) {
            return UNKNOWN;
        }
        if (holds(entrances, place) == is) {
            return 0;
        }
        entrances ^= 1 << place;
        return 1;
    }

    public int detour(int v) {
        if (v < 0 || v > LONGEST_DETOUR) {
            return OUTSIDE;
        }
        int was = slack;
        slack = v;
        return was;
    }

    public int board(int place, int n, int to) {
        if (!isPlace(place) || !isName(n) || !isPlace(to)) {
            return UNKNOWN;
        }
        if (!building.joins(place, to)) {
            return STATE;
        }
        int was = boards[n][place];
        boards[n][place] = to;
        return was;
    }

    public int unboard(int place, int n) {
        if (!isPlace(place) || !isName(n)) {
            return UNKNOWN;
        }
        int was = boards[n][place];
        if (was == NONE) {
            return STATE;
        }
        boards[n][place] = NONE;
        return was;
    }

    public int arrow(int place, int n) {
        if (!isPlace(place) || !isName(n)) {
            return UNKNOWN;
        }
        return boards[n][place];
    }

    public int far(int place, int n, int what) {
        if (!isPlace(place) || !isName(n)) {
            return UNKNOWN;
        }
        if (what < 0 || what > 1) {
            return OUTSIDE;
        }
        guide.draw(building, n, homes[n]);
        return what == 0 ? guide.distance[n][place] : guide.best[n][place];
    }

    public int from(int place) {
        if (!isPlace(place)) {
            return UNKNOWN;
        }
        return building.near[place];
    }

    // ---- 2 one who follows

    public int follow(int place, int n, int what) {
        if (!isPlace(place) || !isName(n)) {
            return UNKNOWN;
        }
        boolean ofWay = what >= WAY_FROM && what <= WAY_TO;
        if (!ofWay && (what < 0 || what > 3)) {
            return OUTSIDE;
        }
        follower.go(building, place, homes[n], boards[n]);
        switch (what) {
            case 0: return follower.ending;
            case 1: return follower.steps;
            case 2: return follower.total;
            case 3: return follower.placeAt(follower.steps);
            default: return follower.placeAt(what - WAY_FROM);
        }
    }

    // ---- 3 followers

    public int ends(int how) {
        if (!isEnding(how)) {
            return OUTSIDE;
        }
        int count = 0;
        for (int n = 0; n < names; n++) {
            count += countEndings(n, boards[n], how);
        }
        return count;
    }

    public int those(int n, int how) {
        if (!isName(n)) {
            return UNKNOWN;
        }
        if (!isEnding(how)) {
            return OUTSIDE;
        }
        int set = 0;
        for (int place = 0; place < PLACES; place++) {
            follower.go(building, place, homes[n], boards[n]);
            if (follower.ending == how) {
                set |= 1 << place;
            }
        }
        return set;
    }

    public int idle(int place) {
        if (!isPlace(place)) {
            return UNKNOWN;
        }
        int set = 0;
        for (int n = 0; n < names; n++) {
            if (boards[n][place] != NONE && isIdle(place, n)) {
                set |= 1 << n;
            }
        }
        return set;
    }

    public int mend(int what) {
        if (what < 0 || what > 2) {
            return OUTSIDE;
        }
        findMend();
        switch (what) {
            case 0: return mendPlace;
            case 1: return mendName;
            default: return mendArrived;
        }
    }

    // ---- 4 fewest

    public int leads(int set, int n) {
        if (!isName(n)) {
            return UNKNOWN;
        }
        if (set < 0 || set > ALL_PLACES) {
            return OUTSIDE;
        }
        guide.draw(building, n, homes[n]);
        return wouldLead(set, n) ? 1 : 0;
    }

    public int fewest(int n) {
        if (!isName(n)) {
            return UNKNOWN;
        }
        return leastSet(n, n + 1);
    }

    public int posts() {
        return leastSet(0, names);
    }

    public int many(int what) {
        switch (what) {
            case 0: return building.count;
            case 1: return building.countOpen();
            case 2: return names;
            case 3: return Integer.bitCount(entrances);
            case 4: return countBoards();
            case 5: return Integer.bitCount(boardedPlaces());
            case 6: return slack;
            default: return OUTSIDE;
        }
    }

    // ---- what the calls share

    private static boolean isPlace(int place) {
        return place >= 0 && place < PLACES;
    }

    private static boolean isEnding(int how) {
        return how >= ARRIVED && how <= ROUND;
    }

    private static boolean holds(int set, int k) {
        return (set >> k & 1) != 0;
    }

    private boolean isName(int n) {
        return n >= 0 && n < names;
    }

    private int countBoards() {
        int count = 0;
        for (int n = 0; n < names; n++) {
            count += Integer.bitCount(boardedFor(n));
        }
        return count;
    }

    private int boardedPlaces() {
        int set = 0;
        for (int n = 0; n < names; n++) {
            set |= boardedFor(n);
        }
        return set;
    }

    private int boardedFor(int n) {
        int set = 0;
        for (int place = 0; place < PLACES; place++) {
            if (boards[n][place] != NONE) {
                set |= 1 << place;
            }
        }
        return set;
    }

    /** How many followers of a name end so, were these its arrows. */
    private int countEndings(int n, int[] arrows, int how) {
        int count = 0;
        for (int place = 0; place < PLACES; place++) {
            if (holds(entrances, place)) {
                follower.go(building, place, homes[n], arrows);
                if (follower.ending == how) {
                    count++;
                }
            }
        }
        return count;
    }

    private boolean isIdle(int place, int n) {
        System.arraycopy(boards[n], 0, trial, 0, PLACES);
        trial[place] = NONE;
        for (int start = 0; start < PLACES; start++) {
            if (holds(entrances, start)) {
                follower.go(building, start, homes[n], boards[n]);
                other.go(building, start, homes[n], trial);
                if (!follower.wentLike(other)) {
                    return false;
                }
            }
        }
        return true;
    }

    private void findMend() {
        int now = ends(ARRIVED);
        mendPlace = NONE;
        mendName = NONE;
        mendArrived = NONE;
        for (int n = 0; n < names; n++) {
            guide.draw(building, n, homes[n]);
            int others = now - countEndings(n, boards[n], ARRIVED);
            System.arraycopy(boards[n], 0, trial, 0, PLACES);
            for (int place = 0; place < PLACES; place++) {
                if (boards[n][place] == NONE && holds(guide.signable[n], place)) {
                    trial[place] = guide.best[n][place];
                    int arrived = others + countEndings(n, trial, ARRIVED);
                    trial[place] = NONE;
                    if (arrived > now) {
                        offerMend(place, n, arrived);
                    }
                }
            }
        }
    }

    /** Names come here in rising order, so at one place the lesser name stands already. */
    private void offerMend(int place, int n, int arrived) {
        if (arrived > mendArrived || arrived == mendArrived && place < mendPlace) {
            mendPlace = place;
            mendName = n;
            mendArrived = arrived;
        }
    }

    /** Whether a set leads to a name for which the guide has been drawn. */
    private boolean wouldLead(int set, int n) {
        if ((set & ~guide.signable[n]) != 0) {
            return false;
        }
        for (int place = 0; place < PLACES; place++) {
            trial[place] = holds(set, place) ? guide.best[n][place] : NONE;
        }
        for (int start = 0; start < PLACES; start++) {
            if (holds(entrances, start)) {
                follower.go(building, start, homes[n], trial);
                if (follower.ending != ARRIVED || follower.total > guide.distance[n][start] + slack) {
                    return false;
                }
            }
        }
        return true;
    }

    /** The set of the fewest places whose signable ones lead to each of the names from first up to end. */
    private int leastSet(int first, int end) {
        int set = 0;
        for (int n = first; n < end; n++) {
            guide.draw(building, n, homes[n]);
            set |= choicesOnBestWays(n);
        }
        for (int n = first; n < end; n++) {
            if (!wouldLead(set & guide.signable[n], n)) {
                return NONE;
            }
        }
        return set;
    }

    /**
     * The places where followers of a name who go by best have a choice. No set needs more: who comes to a place by
     * best has come nearer, so best there is not back, and where he has no choice he goes by best without a board.
     * And none leads with less: whatever boards there are, he goes by best up to the first choice that lacks one.
     */
    private int choicesOnBestWays(int n) {
        int set = 0;
        for (int start = 0; start < PLACES; start++) {
            if (holds(entrances, start)) {
                set |= choicesFrom(start, n);
            }
        }
        return set;
    }

    private int choicesFrom(int start, int n) {
        int set = 0;
        int back = 0;
        int place = start;
        for (int step = 0; step < PLACES && guide.best[n][place] != NONE; step++) {
            if (Integer.bitCount(building.near[place] & ~back) > 1) {
                set |= 1 << place;
            }
            back = 1 << place;
            place = guide.best[n][place];
        }
        return set;
    }

    /** The walks, and beside them who is next to whom by an open one, as following asks that at each step. */
    private static final class Building {
        final int[] lesser;
        final int[] greater;
        final int[] lengths;
        final boolean[] opened;
        final int[] near;
        // The length of the open walk between two places, 0 where there is none.
        final int[][] openLength;
        int count;

        Building() {
            lesser = new int[WALKS];
            greater = new int[WALKS];
            lengths = new int[WALKS];
            opened = new boolean[WALKS];
            near = new int[PLACES];
            openLength = new int[PLACES][PLACES];
            count = 0;
        }

        boolean has(int k) {
            return k >= 0 && k < count;
        }

        boolean joins(int a, int b) {
            int low = Math.min(a, b);
            int high = Math.max(a, b);
            for (int k = 0; k < count; k++) {
                if (lesser[k] == low && greater[k] == high) {
                    return true;
                }
            }
            return false;
        }

        int add(int a, int b, int length) {
            int k = count;
            count++;
            lesser[k] = Math.min(a, b);
            greater[k] = Math.max(a, b);
            lengths[k] = length;
            opened[k] = false;
            turn(k, true);
            return k;
        }

        int removeLast() {
            turn(count - 1, false);
            count--;
            return count;
        }

        /** Opens or closes a walk: whether it was otherwise. */
        boolean turn(int k, boolean is) {
            if (opened[k] == is) {
                return false;
            }
            opened[k] = is;
            int a = lesser[k];
            int b = greater[k];
            near[a] ^= 1 << b;
            near[b] ^= 1 << a;
            openLength[a][b] = is ? lengths[k] : 0;
            openLength[b][a] = openLength[a][b];
            return true;
        }

        int countOpen() {
            int found = 0;
            for (int k = 0; k < count; k++) {
                if (opened[k]) {
                    found++;
                }
            }
            return found;
        }
    }

    /** For each name how far it is from each place, and where one goes next; drawn anew when it is asked for. */
    private static final class Guide {
        final int[][] distance;
        final int[][] best;
        // For each name the places that have a best for it; its own place has none.
        final int[] signable;

        Guide() {
            distance = new int[NAMES][PLACES];
            best = new int[NAMES][PLACES];
            signable = new int[NAMES];
        }

        void draw(Building building, int n, int home) {
            measure(building, distance[n], home);
            signable[n] = 0;
            for (int place = 0; place < PLACES; place++) {
                best[n][place] = bestAt(building, distance[n], place);
                if (best[n][place] != NONE) {
                    signable[n] |= 1 << place;
                }
            }
        }

        /** No least way has more than PLACES - 1 walks, so as many rounds over all walks are enough. */
        private static void measure(Building building, int[] row, int home) {
            Arrays.fill(row, NONE);
            row[home] = 0;
            boolean shorter = true;
            for (int round = 1; round < PLACES && shorter; round++) {
                shorter = false;
                for (int k = 0; k < building.count; k++) {
                    if (building.opened[k]) {
                        int a = building.lesser[k];
                        int b = building.greater[k];
                        shorter |= shorten(row, a, b, building.lengths[k]);
                        shorter |= shorten(row, b, a, building.lengths[k]);
                    }
                }
            }
        }

        private static boolean shorten(int[] row, int place, int next, int length) {
            if (row[next] == NONE || row[place] != NONE && row[place] <= row[next] + length) {
                return false;
            }
            row[place] = row[next] + length;
            return true;
        }

        private static int bestAt(Building building, int[] row, int place) {
            for (int next = 0; next < PLACES; next++) {
                int length = building.openLength[place][next];
                if (length > 0 && row[next] != NONE && row[next] + length == row[place]) {
                    return next;
                }
            }
            return NONE;
        }
    }

    /** One who follows a name, and how the last time that he went was. */
    private static final class Follower {
        final int[] way;
        // For each place the places from which he came to it: of two places there is one walk at most.
        final int[] came;
        int steps;
        int total;
        int ending;

        Follower() {
            way = new int[MOST_STEPS + 1];
            came = new int[PLACES];
            steps = 0;
            total = 0;
            ending = ARRIVED;
        }

        void go(Building building, int start, int home, int[] arrows) {
            Arrays.fill(came, 0);
            way[0] = start;
            steps = 0;
            total = 0;
            ending = ROUND;
            int place = start;
            int back = 0;
            for (int step = 1; step <= MOST_STEPS; step++) {
                if (place == home) {
                    ending = ARRIVED;
                    return;
                }
                int next = nextFrom(building, place, back, arrows[place]);
                if (next < 0) {
                    ending = -next;
                    return;
                }
                way[step] = next;
                steps = step;
                total += building.openLength[place][next];
                back = 1 << place;
                if ((came[next] & back) != 0) {
                    return;
                }
                came[next] |= back;
                place = next;
            }
        }

        /** The next place; below 0, where there is none, the ending that this makes, negated. */
        private static int nextFrom(Building building, int place, int back, int to) {
            int ways = building.near[place];
            if (to != NONE) {
                return holds(ways, to) ? to : -BARRED;
            }
            ways &= ~back;
            if (ways == 0) {
                return -DEAD_END;
            }
            // A set of one place is a power of two: the ones below it are as many as its number.
            return Integer.bitCount(ways) > 1 ? -CHOICE : Integer.bitCount(ways - 1);
        }

        int placeAt(int k) {
            return k >= 0 && k <= steps ? way[k] : NONE;
        }

        boolean wentLike(Follower that) {
            if (ending != that.ending || steps != that.steps) {
                return false;
            }
            for (int k = 0; k <= steps; k++) {
                if (way[k] != that.way[k]) {
                    return false;
                }
            }
            return true;
        }
    }
}
