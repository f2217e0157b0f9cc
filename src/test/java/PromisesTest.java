/** The document's promises one by one, each with answers worked out by hand. */
public final class PromisesTest {
    private static final int UNKNOWN = -1, OUTSIDE = -2, STATE = -3, FULL = -4, NONE = -9;
    private static final int LEAST = Integer.MIN_VALUE, MOST = Integer.MAX_VALUE;
    private static final int[] NO_PLACES = {-1, 10, -9, LEAST, MOST, 32};

    private static int wrong = 0;

    private static void due(int promise, String what, int got, int want) {
        if (got != want) {
            wrong++;
            System.out.println("promise " + promise + ": " + what + " answered " + got + ", due is " + want);
        }
    }

    public static void main(String[] args) {
        aNewObject();
        walk();
        walkWhenFull();
        unwalk();
        open();
        ofWalk();
        name();
        moves();
        entrance();
        detour();
        board();
        unboard();
        arrow();
        far();
        farByManyWalks();
        from();
        followAlone();
        followBoards();
        followRound();
        followFarAlong();
        ends();
        those();
        idle();
        idleByWaysAndEnds();
        mend();
        mendOfSeveral();
        leads();
        fewest();
        posts();
        postsOfApart();
        many();
        System.out.println(wrong == 0 ? "all promises hold" : wrong + " answers are not as due");
        if (wrong != 0) {
            System.exit(1);
        }
    }

    /** Walks of length 1, 2, 3 .. between the places told in pairs. */
    private static WaySigns building(int... ends) {
        WaySigns x = new WaySigns();
        for (int i = 0; i + 1 < ends.length; i += 2) {
            due(2, "walk of the building", x.walk(ends[i], ends[i + 1], 1 + i / 2), i / 2);
        }
        return x;
    }

    private static void way(WaySigns x, int place, int n, int ending, int... places) {
        String call = "follow(" + place + ", " + n + ", ";
        int last = places.length - 1;
        due(15, call + "0)", x.follow(place, n, 0), ending);
        due(15, call + "1)", x.follow(place, n, 1), last);
        due(15, call + "3)", x.follow(place, n, 3), places[last]);
        // Not each k up to 40: an object is used for at most 512 calls.
        for (int k = 0; k <= last + 1; k++) {
            due(15, call + (10 + k) + ")", x.follow(place, n, 10 + k), k <= last ? places[k] : NONE);
        }
        due(15, call + "50)", x.follow(place, n, 50), NONE);
    }

    private static void aNewObject() {
        WaySigns x = new WaySigns();
        WaySigns y = new WaySigns();
        y.walk(0, 1, 2);
        y.name(1);
        y.entrance(0, true);
        y.board(0, 0, 1);
        y.detour(7);
        for (int what = 0; what <= 6; what++) {
            due(1, "many(" + what + ")", x.many(what), 0);
        }
        for (int p = 0; p < 10; p++) {
            due(1, "from", x.from(p), 0);
            due(1, "idle", x.idle(p), 0);
            due(1, "no name", x.arrow(p, 0), UNKNOWN);
            due(1, "no entrance", x.entrance(p, false), 0);
        }
        for (int how = 0; how <= 4; how++) {
            due(1, "ends", x.ends(how), 0);
        }
        due(1, "no walk", x.ofWalk(0, 0), UNKNOWN);
        due(1, "unwalk", x.unwalk(), STATE);
        due(1, "mend", x.mend(0), NONE);
        due(1, "posts", x.posts(), 0);
        due(1, "fewest", x.fewest(0), UNKNOWN);
        due(1, "detour", x.detour(0), 0);
    }

    private static void walk() {
        WaySigns x = new WaySigns();
        for (int p : NO_PLACES) {
            due(2, "first place", x.walk(p, 1, 0), UNKNOWN);
            due(2, "second place", x.walk(1, p, 0), UNKNOWN);
        }
        for (int p = 0; p < 10; p++) {
            due(2, "one place", x.walk(p, p, 0), UNKNOWN);
        }
        due(2, "length 0", x.walk(0, 1, 0), OUTSIDE);
        due(2, "length 100", x.walk(0, 1, 100), OUTSIDE);
        due(2, "least length", x.walk(0, 1, LEAST), OUTSIDE);
        due(2, "most length", x.walk(0, 1, MOST), OUTSIDE);
        due(2, "nothing changed", x.many(0), 0);
        due(2, "length 1", x.walk(0, 9, 1), 0);
        due(2, "length 99", x.walk(9, 8, 99), 1);
        due(2, "there is one", x.walk(0, 9, 5), STATE);
        due(2, "there is one the other way", x.walk(9, 0, 5), STATE);
        due(2, "OUTSIDE ahead of STATE", x.walk(9, 0, 0), OUTSIDE);
        x.open(0, false);
        due(2, "there is a closed one", x.walk(0, 9, 5), STATE);
        due(2, "the length stays", x.ofWalk(0, 2), 1);
        due(2, "still two", x.many(0), 2);
    }

    private static void walkWhenFull() {
        WaySigns x = building(0, 1, 1, 2, 2, 3, 3, 4, 4, 5, 5, 6, 6, 7, 7, 8, 8, 9, 0, 2, 2, 4, 4, 6, 6, 8, 1, 3);
        due(2, "full", x.walk(0, 9, 1), FULL);
        due(2, "STATE ahead of FULL", x.walk(1, 0, 1), STATE);
        due(2, "OUTSIDE ahead of FULL", x.walk(0, 9, 100), OUTSIDE);
        due(2, "UNKNOWN ahead of FULL", x.walk(0, 0, 1), UNKNOWN);
        due(2, "fourteen", x.many(0), 14);
        due(3, "room again", x.unwalk(), 13);
        due(2, "room again", x.walk(0, 9, 1), 13);
        due(2, "full again", x.walk(1, 3, 1), FULL);
    }

    private static void unwalk() {
        WaySigns x = building(0, 1, 1, 2);
        x.name(2);
        x.board(1, 0, 2);
        x.open(1, false);
        due(3, "unwalk", x.unwalk(), 1);
        due(3, "it is no more", x.ofWalk(1, 0), UNKNOWN);
        due(3, "its board stays", x.arrow(1, 0), 2);
        due(3, "no board may come", x.board(2, 0, 1), STATE);
        due(3, "the arrow leads nowhere", x.follow(1, 0, 0), 3);
        due(3, "the next is open", x.walk(2, 1, 9), 1);
        due(3, "the next is open", x.ofWalk(1, 3), 1);
        due(3, "and leads", x.follow(1, 0, 2), 9);
        due(3, "unwalk", x.unwalk(), 1);
        due(3, "nothing leads there", x.from(2), 0);
        due(3, "the other stays", x.from(1), 1);
        due(3, "unwalk", x.unwalk(), 0);
        due(3, "there is none", x.unwalk(), STATE);
        due(3, "nowhere", x.from(0), 0);
    }

    private static void open() {
        WaySigns x = building(0, 1, 1, 2);
        due(4, "it was open", x.open(0, true), 0);
        due(4, "closed", x.open(0, false), 1);
        due(4, "it was closed", x.open(0, false), 0);
        due(4, "the other is open", x.ofWalk(1, 3), 1);
        due(4, "is closed", x.ofWalk(0, 3), 0);
        due(4, "leads nowhere", x.from(0), 0);
        due(4, "opened", x.open(0, true), 1);
        due(4, "leads again", x.from(0), 2);
        for (int k : new int[] {-1, 2, 13, 14, LEAST, MOST}) {
            due(4, "no such walk", x.open(k, true), UNKNOWN);
            due(4, "no such walk", x.open(k, false), UNKNOWN);
        }
        due(4, "nothing changed", x.many(1), 2);
    }

    private static void ofWalk() {
        WaySigns x = new WaySigns();
        x.walk(7, 3, 42);
        x.walk(2, 9, 99);
        int[][] told = {{3, 7, 42, 1}, {2, 9, 99, 1}};
        for (int k = 0; k < 2; k++) {
            for (int what = 0; what < 4; what++) {
                due(5, "ofWalk", x.ofWalk(k, what), told[k][what]);
            }
        }
        x.open(1, false);
        due(5, "closed", x.ofWalk(1, 3), 0);
        due(5, "its length stays", x.ofWalk(1, 2), 99);
        for (int what : new int[] {-1, 4, LEAST, MOST}) {
            due(5, "what", x.ofWalk(0, what), OUTSIDE);
            due(5, "UNKNOWN ahead of OUTSIDE", x.ofWalk(2, what), UNKNOWN);
        }
        due(5, "below", x.ofWalk(-1, 0), UNKNOWN);
    }

    private static void name() {
        WaySigns x = new WaySigns();
        for (int p : NO_PLACES) {
            due(6, "no place", x.name(p), UNKNOWN);
        }
        due(6, "none yet", x.many(2), 0);
        int[] homes = {9, 0, 0, 4, 5};
        for (int n = 0; n < 5; n++) {
            due(6, "no such name yet", x.arrow(0, n), UNKNOWN);
            due(6, "name", x.name(homes[n]), n);
        }
        due(6, "full", x.name(0), FULL);
        due(6, "UNKNOWN ahead of FULL", x.name(10), UNKNOWN);
        for (int n = 0; n < 5; n++) {
            due(6, "it is there", x.those(n, 0), 1 << homes[n]);
        }
        due(6, "no sixth", x.arrow(0, 5), UNKNOWN);
    }

    private static void moves() {
        WaySigns x = building(0, 1);
        x.name(0);
        x.name(0);
        x.board(0, 0, 1);
        due(7, "moves", x.moves(0, 1), 0);
        due(7, "the same", x.moves(0, 1), 1);
        due(7, "the other stays", x.moves(1, 9), 0);
        due(7, "the board stays", x.arrow(0, 0), 1);
        due(7, "arrived at once", x.follow(1, 0, 1), 0);
        due(7, "arrived by the board", x.follow(0, 0, 0), 0);
        for (int p : NO_PLACES) {
            due(7, "no place", x.moves(0, p), UNKNOWN);
        }
        for (int n : new int[] {-1, 2, 4, 5, LEAST, MOST}) {
            due(7, "no name", x.moves(n, 0), UNKNOWN);
        }
        due(7, "nothing changed", x.moves(0, 0), 1);
        due(7, "nothing changed", x.moves(1, 0), 9);
    }

    private static void entrance() {
        WaySigns x = new WaySigns();
        due(8, "none", x.entrance(9, false), 0);
        due(8, "one", x.entrance(9, true), 1);
        due(8, "it was", x.entrance(9, true), 0);
        due(8, "another", x.entrance(0, true), 1);
        due(8, "two", x.many(3), 2);
        due(8, "none more", x.entrance(9, false), 1);
        due(8, "the other stays", x.entrance(0, true), 0);
        for (int p : NO_PLACES) {
            due(8, "no place", x.entrance(p, true), UNKNOWN);
            due(8, "no place", x.entrance(p, false), UNKNOWN);
        }
        due(8, "one", x.many(3), 1);
    }

    private static void detour() {
        WaySigns x = new WaySigns();
        due(9, "at first", x.detour(999), 0);
        due(9, "greatest", x.detour(1), 999);
        for (int v : new int[] {-1, 1000, LEAST, MOST}) {
            due(9, "outside", x.detour(v), OUTSIDE);
        }
        due(9, "nothing changed", x.detour(0), 1);
        due(9, "least", x.detour(0), 0);
    }

    private static void board() {
        WaySigns x = building(0, 1, 0, 2, 3, 4);
        x.name(2);
        x.name(2);
        due(10, "new", x.board(0, 0, 1), NONE);
        due(10, "in place", x.board(0, 0, 2), 1);
        due(10, "the same", x.board(0, 0, 2), 2);
        due(10, "of another name", x.board(0, 1, 1), NONE);
        due(10, "the first stays", x.arrow(0, 0), 2);
        due(10, "from the greater place", x.board(1, 0, 0), NONE);
        due(10, "where the name is", x.board(2, 0, 0), NONE);
        x.open(2, false);
        due(10, "by a closed walk", x.board(3, 0, 4), NONE);
        due(10, "no walk", x.board(0, 0, 3), STATE);
        due(10, "to itself", x.board(0, 0, 0), STATE);
        due(10, "two walks away", x.board(1, 0, 2), STATE);
        for (int p : NO_PLACES) {
            due(10, "no place", x.board(p, 0, 0), UNKNOWN);
            due(10, "no other place", x.board(0, 0, p), UNKNOWN);
        }
        for (int n : new int[] {-1, 2, 5, LEAST, MOST}) {
            due(10, "no name", x.board(0, n, 1), UNKNOWN);
        }
        due(10, "nothing changed", x.arrow(0, 0), 2);
        due(10, "five boards", x.many(4), 5);
    }

    private static void unboard() {
        WaySigns x = building(0, 1, 0, 2);
        x.name(9);
        x.name(9);
        x.board(0, 0, 1);
        x.board(0, 1, 2);
        due(11, "no more", x.unboard(0, 0), 1);
        due(11, "there is none", x.unboard(0, 0), STATE);
        due(11, "of the other name", x.arrow(0, 1), 2);
        due(11, "there was none", x.unboard(1, 1), STATE);
        x.unwalk();
        due(11, "its walk is no more", x.unboard(0, 1), 2);
        for (int p : NO_PLACES) {
            due(11, "no place", x.unboard(p, 0), UNKNOWN);
        }
        for (int n : new int[] {-1, 2, LEAST, MOST}) {
            due(11, "no name", x.unboard(0, n), UNKNOWN);
        }
        due(11, "none", x.many(4), 0);
    }

    private static void arrow() {
        WaySigns x = building(0, 1, 1, 9);
        x.name(9);
        due(12, "none", x.arrow(1, 0), NONE);
        x.board(1, 0, 9);
        due(12, "leads", x.arrow(1, 0), 9);
        due(12, "none elsewhere", x.arrow(9, 0), NONE);
        x.board(1, 0, 0);
        due(12, "leads to 0", x.arrow(1, 0), 0);
        x.unboard(1, 0);
        due(12, "none more", x.arrow(1, 0), NONE);
        for (int p : NO_PLACES) {
            due(12, "no place", x.arrow(p, 0), UNKNOWN);
        }
        for (int n : new int[] {-1, 1, LEAST, MOST}) {
            due(12, "no name", x.arrow(0, n), UNKNOWN);
        }
    }

    private static void far() {
        WaySigns x = new WaySigns();
        x.walk(0, 2, 2);
        x.walk(0, 1, 2);
        x.walk(1, 3, 2);
        x.walk(2, 3, 2);
        x.walk(0, 3, 5);
        x.name(3);
        due(13, "longer by one walk", x.far(0, 0, 0), 4);
        due(13, "of two the least", x.far(0, 0, 1), 1);
        due(13, "next to it", x.far(1, 0, 0), 2);
        due(13, "next to it", x.far(1, 0, 1), 3);
        due(13, "it is there", x.far(3, 0, 0), 0);
        due(13, "it is there", x.far(3, 0, 1), NONE);
        due(13, "apart", x.far(9, 0, 0), NONE);
        due(13, "apart", x.far(9, 0, 1), NONE);
        x.open(2, false);
        due(13, "round the closed one", x.far(0, 0, 1), 2);
        due(13, "round the closed one", x.far(1, 0, 0), 6);
        due(13, "round the closed one", x.far(1, 0, 1), 0);
        x.open(3, false);
        due(13, "the long one", x.far(0, 0, 0), 5);
        due(13, "the long one", x.far(0, 0, 1), 3);
        due(13, "the long one", x.far(2, 0, 0), 7);
        x.open(4, false);
        due(13, "all closed", x.far(0, 0, 0), NONE);
        due(13, "all closed", x.far(0, 0, 1), NONE);
        x.moves(0, 0);
        due(13, "moved", x.far(0, 0, 0), 0);
        due(13, "moved", x.far(2, 0, 1), 0);
        due(13, "what 2", x.far(0, 0, 2), OUTSIDE);
        due(13, "what -1", x.far(0, 0, -1), OUTSIDE);
        due(13, "UNKNOWN ahead of OUTSIDE", x.far(10, 0, 2), UNKNOWN);
        due(13, "no name", x.far(0, 1, 2), UNKNOWN);
        for (int p : NO_PLACES) {
            due(13, "no place", x.far(p, 0, 0), UNKNOWN);
        }
        due(13, "no name", x.far(0, -1, 0), UNKNOWN);
    }

    /** A row of places whose walks were made from either end; both ends are asked for. */
    private static void farByManyWalks() {
        for (int side = 0; side < 2; side++) {
            WaySigns x = new WaySigns();
            for (int i = 0; i < 9; i++) {
                int p = side == 0 ? i : 8 - i;
                due(2, "row", x.walk(p, p + 1, 99), i);
            }
            x.walk(0, 2, 99);
            x.open(9, false);
            x.name(9);
            x.name(0);
            for (int p = 0; p < 10; p++) {
                due(13, "to the last", x.far(p, 0, 0), 99 * (9 - p));
                due(13, "to the last", x.far(p, 0, 1), p == 9 ? NONE : p + 1);
                due(13, "to the first", x.far(p, 1, 0), 99 * p);
                due(13, "to the first", x.far(p, 1, 1), p == 0 ? NONE : p - 1);
            }
        }
    }

    private static void from() {
        WaySigns x = building(0, 9, 0, 1, 0, 5, 5, 6);
        due(14, "of 0", x.from(0), 1 << 9 | 1 << 1 | 1 << 5);
        due(14, "of 5", x.from(5), 1 | 1 << 6);
        due(14, "of 9", x.from(9), 1);
        due(14, "of 2", x.from(2), 0);
        x.open(0, false);
        due(14, "of 0", x.from(0), 1 << 1 | 1 << 5);
        due(14, "of 9", x.from(9), 0);
        for (int p : NO_PLACES) {
            due(14, "no place", x.from(p), UNKNOWN);
        }
    }

    private static void followAlone() {
        WaySigns x = building(0, 1, 1, 2, 2, 3, 3, 4, 3, 5);
        x.name(4);
        x.name(2);
        x.name(9);
        way(x, 4, 0, 0, 4);
        way(x, 0, 0, 1, 0, 1, 2, 3);
        way(x, 1, 0, 1, 1);
        way(x, 9, 0, 2, 9);
        way(x, 5, 0, 1, 5, 3);
        way(x, 0, 1, 0, 0, 1, 2);
        way(x, 4, 1, 1, 4, 3);
        due(15, "lengths", x.follow(0, 0, 2), 6);
        due(15, "no lengths", x.follow(1, 0, 2), 0);
        x.open(4, false);
        way(x, 0, 0, 0, 0, 1, 2, 3, 4);
        way(x, 3, 0, 1, 3);
        way(x, 5, 0, 2, 5);
        way(x, 0, 2, 2, 0, 1, 2, 3, 4);
        way(x, 4, 1, 0, 4, 3, 2);
        due(15, "lengths", x.follow(0, 0, 2), 10);
        due(15, "lengths", x.follow(4, 1, 2), 7);
        for (int what : new int[] {-1, 4, 9, 51, LEAST, MOST}) {
            due(15, "what", x.follow(0, 0, what), OUTSIDE);
            due(15, "UNKNOWN ahead of OUTSIDE", x.follow(0, 3, what), UNKNOWN);
            due(15, "UNKNOWN ahead of OUTSIDE", x.follow(10, 0, what), UNKNOWN);
        }
        for (int p : NO_PLACES) {
            due(15, "no place", x.follow(p, 0, 0), UNKNOWN);
        }
        due(15, "no name", x.follow(0, -1, 0), UNKNOWN);
    }

    private static void followBoards() {
        WaySigns x = building(0, 1, 1, 2, 1, 3);
        x.name(3);
        x.name(9);
        x.board(1, 0, 3);
        way(x, 0, 0, 0, 0, 1, 3);
        way(x, 2, 0, 0, 2, 1, 3);
        way(x, 1, 0, 0, 1, 3);
        way(x, 0, 1, 1, 0, 1);
        x.open(2, false);
        way(x, 0, 0, 3, 0, 1);
        way(x, 1, 0, 3, 1);
        way(x, 0, 1, 2, 0, 1, 2);
        due(15, "lengths to the closed walk", x.follow(2, 0, 2), 2);
        x.open(2, true);
        x.board(3, 0, 1);
        way(x, 0, 0, 0, 0, 1, 3);
        x.board(1, 0, 0);
        way(x, 0, 0, 2, 0, 1, 0);
        due(15, "there and back", x.follow(0, 0, 2), 2);
        x.unwalk();
        x.board(1, 0, 2);
        way(x, 0, 0, 2, 0, 1, 2);
    }

    private static void followRound() {
        WaySigns x = building(0, 1, 1, 2, 2, 3, 3, 1);
        x.name(9);
        x.board(1, 0, 2);
        way(x, 0, 0, 4, 0, 1, 2, 3, 1, 2);
        way(x, 1, 0, 4, 1, 2, 3, 1, 2);
        way(x, 2, 0, 1, 2);
        due(15, "lengths, the last one twice", x.follow(0, 0, 2), 1 + 2 + 3 + 4 + 2);
        x.board(1, 0, 0);
        way(x, 0, 0, 2, 0, 1, 0);
        x.board(0, 0, 1);
        way(x, 0, 0, 4, 0, 1, 0, 1);
        way(x, 1, 0, 4, 1, 0, 1, 0);
        due(15, "there and back", x.follow(0, 0, 2), 3);
        x.moves(0, 1);
        way(x, 0, 0, 0, 0, 1);
        WaySigns ring = building(0, 1, 1, 2, 2, 0);
        ring.name(9);
        ring.board(0, 0, 1);
        way(ring, 0, 0, 4, 0, 1, 2, 0, 1);
        ring.unboard(0, 0);
        ring.walk(3, 0, 1);
        ring.board(0, 0, 2);
        way(ring, 3, 0, 4, 3, 0, 2, 1, 0, 2);
        due(3, "no walk more", ring.unwalk(), 3);
        way(ring, 0, 0, 4, 0, 2, 1, 0, 2);
    }

    /** To the end of a row, back, and once more on: each walk gone either way. */
    private static void followFarAlong() {
        WaySigns x = building(0, 1, 1, 2, 2, 3, 3, 4, 4, 5, 5, 6, 6, 7, 7, 8);
        x.name(9);
        x.board(0, 0, 1);
        x.board(8, 0, 7);
        way(x, 0, 0, 4, 0, 1, 2, 3, 4, 5, 6, 7, 8, 7, 6, 5, 4, 3, 2, 1, 0, 1);
        due(15, "lengths", x.follow(0, 0, 2), 36 + 36 + 1);
        due(15, "the last that may be asked", x.follow(0, 0, 50), NONE);
    }

    private static void ends() {
        WaySigns x = building(0, 1, 1, 2, 1, 3, 5, 6);
        for (int p : new int[] {0, 5, 9}) {
            x.entrance(p, true);
        }
        due(16, "no names", x.ends(2), 0);
        x.name(3);
        x.name(6);
        due(16, "arrived: 5 to 6", x.ends(0), 1);
        due(16, "choice: 0 to both", x.ends(1), 2);
        due(16, "dead end: 5 to 3, 9 to both", x.ends(2), 3);
        x.board(1, 0, 3);
        due(16, "arrived", x.ends(0), 2);
        x.open(2, false);
        due(16, "barred", x.ends(3), 1);
        due(16, "choice is one way now", x.ends(1), 0);
        x.board(5, 0, 6);
        x.board(6, 0, 5);
        due(16, "round", x.ends(4), 1);
        x.entrance(5, false);
        due(16, "none round", x.ends(4), 0);
        for (int how : new int[] {-1, 5, LEAST, MOST}) {
            due(16, "how", x.ends(how), OUTSIDE);
        }
    }

    private static void those() {
        WaySigns x = building(0, 1, 1, 2, 1, 3, 5, 6, 7, 8);
        x.name(3);
        x.name(9);
        x.board(1, 0, 3);
        x.board(5, 0, 6);
        x.board(6, 0, 5);
        x.board(7, 0, 8);
        x.open(4, false);
        due(17, "arrived", x.those(0, 0), 1 | 2 | 4 | 8);
        due(17, "choice", x.those(0, 1), 0);
        due(17, "dead end", x.those(0, 2), 1 << 4 | 1 << 8 | 1 << 9);
        due(17, "barred", x.those(0, 3), 1 << 7);
        due(17, "round", x.those(0, 4), 1 << 5 | 1 << 6);
        due(17, "choice for the other", x.those(1, 1), 1 | 2 | 4 | 8);
        due(17, "the other", x.those(1, 0), 1 << 9);
        for (int how : new int[] {-1, 5, LEAST, MOST}) {
            due(17, "how", x.those(0, how), OUTSIDE);
            due(17, "UNKNOWN ahead of OUTSIDE", x.those(2, how), UNKNOWN);
        }
        due(17, "no name", x.those(-1, 0), UNKNOWN);
    }

    private static void idle() {
        WaySigns x = building(0, 1, 1, 2, 2, 3, 2, 4);
        x.name(3);
        x.name(4);
        x.board(1, 0, 2);
        x.board(2, 0, 3);
        x.board(3, 0, 2);
        x.board(1, 1, 0);
        due(18, "no entrances: all are", x.idle(1), 3);
        due(18, "no entrances: all are", x.idle(2), 1);
        due(18, "no boards there", x.idle(0), 0);
        x.entrance(0, true);
        due(18, "no choice but on; back is another way", x.idle(1), 1);
        due(18, "a choice", x.idle(2), 0);
        due(18, "where the name is", x.idle(3), 1);
        x.entrance(1, true);
        due(18, "a choice for who starts there", x.idle(1), 0);
        x.entrance(0, false);
        x.entrance(1, false);
        x.entrance(4, true);
        due(18, "no follower comes there", x.idle(1), 3);
        for (int p : NO_PLACES) {
            due(18, "no place", x.idle(p), UNKNOWN);
        }
    }

    private static void idleByWaysAndEnds() {
        WaySigns x = building(0, 1, 1, 2);
        x.name(9);
        x.entrance(0, true);
        x.board(1, 0, 0);
        due(18, "ends alike by as many walks, by another way", x.idle(1), 0);
        x.unboard(1, 0);
        x.board(2, 0, 1);
        x.open(1, false);
        due(18, "no one comes there", x.idle(2), 1);
        x.open(1, true);
        due(18, "one comes there", x.idle(2), 0);
        x.unboard(2, 0);
        x.board(0, 0, 1);
        due(18, "the one way from the start", x.idle(0), 1);
        x.open(0, false);
        due(18, "the same way, another end", x.idle(0), 0);
        WaySigns two = building(0, 1, 1, 2);
        two.name(2);
        two.entrance(0, true);
        two.board(0, 0, 1);
        two.board(1, 0, 2);
        due(18, "each alone", two.idle(0), 1);
        due(18, "each alone", two.idle(1), 1);
    }

    private static void mend() {
        WaySigns x = building(5, 0, 5, 1, 5, 2);
        x.name(1);
        x.name(2);
        due(19, "no followers", x.mend(0), NONE);
        x.entrance(0, true);
        mended(x, 5, 0, 1);
        x.entrance(1, true);
        due(19, "now", x.ends(0), 1);
        mended(x, 5, 1, 3);
        x.board(5, 1, 2);
        mended(x, 5, 0, 4);
        due(19, "it changes nothing", x.many(4), 1);
        x.board(5, 0, 2);
        due(19, "there is a board, be it wrong", x.mend(0), NONE);
        due(19, "there is a board, be it wrong", x.mend(1), NONE);
        due(19, "there is a board, be it wrong", x.mend(2), NONE);
        x.board(5, 0, 1);
        due(19, "all arrive", x.mend(2), NONE);
        due(19, "what", x.mend(3), OUTSIDE);
        due(19, "what", x.mend(-1), OUTSIDE);
        due(19, "what", x.mend(LEAST), OUTSIDE);
        due(19, "what", x.mend(MOST), OUTSIDE);
    }

    private static void mended(WaySigns x, int place, int n, int arrived) {
        due(19, "mend's place", x.mend(0), place);
        due(19, "mend's name", x.mend(1), n);
        due(19, "mend's followers", x.mend(2), arrived);
    }

    private static void mendOfSeveral() {
        WaySigns x = building(5, 0, 5, 1, 5, 2, 4, 7, 4, 8, 4, 9);
        x.name(1);
        x.name(8);
        x.entrance(0, true);
        x.entrance(7, true);
        mended(x, 4, 1, 1);
        x.entrance(2, true);
        mended(x, 5, 0, 2);
        x.board(5, 0, 1);
        mended(x, 4, 1, 3);
        x.open(4, false);
        due(19, "one does not come there", x.mend(0), NONE);
        WaySigns turn = building(0, 1, 1, 2, 0, 3, 3, 4, 4, 2);
        turn.name(2);
        turn.entrance(0, true);
        mended(turn, 0, 0, 1);
        turn.walk(1, 5, 1);
        due(19, "by best alone: a choice again", turn.mend(0), NONE);
    }

    private static void leads() {
        WaySigns x = building(0, 1, 1, 2, 1, 3, 5, 6);
        x.name(3);
        due(20, "no followers: none", x.leads(0, 0), 1);
        due(20, "no followers: some", x.leads(1 | 2 | 4, 0), 1);
        due(20, "the name is there", x.leads(8, 0), 0);
        due(20, "one has no best", x.leads(1 << 5, 0), 0);
        x.entrance(0, true);
        due(20, "a choice", x.leads(0, 0), 0);
        due(20, "there", x.leads(2, 0), 1);
        due(20, "elsewhere", x.leads(1 | 4, 0), 0);
        due(20, "more than are needed", x.leads(1 | 2 | 4, 0), 1);
        due(20, "with the name's place", x.leads(2 | 8, 0), 0);
        due(20, "with a place without best", x.leads(2 | 1 << 9, 0), 0);
        x.board(1, 0, 3);
        due(20, "boards that are count for nothing", x.leads(0, 0), 0);
        x.board(1, 0, 2);
        due(20, "boards that are count for nothing", x.leads(2, 0), 1);
        due(20, "the board stays", x.arrow(1, 0), 2);
        x.entrance(3, true);
        due(20, "from where it is", x.leads(2, 0), 1);
        x.entrance(5, true);
        due(20, "one can't come there", x.leads(2, 0), 0);
        due(20, "all places", x.leads(1023, 0), 0);
        x.moves(0, 6);
        due(20, "a place that had a best has none", x.leads(2, 0), 0);
        x.entrance(0, false);
        x.entrance(3, false);
        due(20, "a place that had none has a best", x.leads(1 << 5, 0), 1);
        for (int set : new int[] {-1, 1024, LEAST, MOST}) {
            due(20, "no set", x.leads(set, 0), OUTSIDE);
            due(20, "UNKNOWN ahead of OUTSIDE", x.leads(set, 1), UNKNOWN);
        }
        due(20, "no name", x.leads(0, -1), UNKNOWN);
    }

    private static void fewest() {
        WaySigns x = building(0, 1, 1, 2, 1, 3, 3, 4, 4, 5, 4, 6, 8, 9);
        x.name(6);
        due(21, "no followers", x.fewest(0), 0);
        x.entrance(6, true);
        due(21, "from where it is", x.fewest(0), 0);
        x.entrance(0, true);
        due(21, "two choices", x.fewest(0), 1 << 1 | 1 << 4);
        x.entrance(3, true);
        due(21, "a start between two walks", x.fewest(0), 1 << 1 | 1 << 3 | 1 << 4);
        x.entrance(3, false);
        x.open(1, false);
        due(21, "one choice is closed", x.fewest(0), 1 << 4);
        x.open(1, true);
        x.detour(999);
        x.board(1, 0, 2);
        due(21, "boards that are count for nothing", x.fewest(0), 1 << 1 | 1 << 4);
        x.moves(0, 1);
        due(21, "moved", x.fewest(0), 1 << 4);
        x.entrance(9, true);
        due(21, "one can't come there", x.fewest(0), NONE);
        due(21, "no name", x.fewest(1), UNKNOWN);
        due(21, "no name", x.fewest(-1), UNKNOWN);
        due(21, "no name", x.fewest(LEAST), UNKNOWN);
        due(21, "no name", x.fewest(MOST), UNKNOWN);
    }

    private static void posts() {
        WaySigns x = building(0, 1, 1, 2, 1, 3, 3, 4, 4, 5, 4, 6);
        x.entrance(0, true);
        due(22, "no names", x.posts(), 0);
        x.name(2);
        due(22, "one name", x.posts(), 1 << 1);
        x.name(6);
        due(22, "two names", x.posts(), 1 << 1 | 1 << 4);
        x.entrance(4, true);
        x.name(4);
        due(22, "the name is at one of them", x.posts(), 1 << 1 | 1 << 4);
        x.name(9);
        due(22, "one can't come to one name", x.posts(), NONE);
        x.moves(3, 0);
        due(22, "a start in a choice", x.posts(), 1 << 1 | 1 << 4);
        x.entrance(3, true);
        due(22, "and one between two walks", x.posts(), 1 << 1 | 1 << 3 | 1 << 4);
    }

    private static void postsOfApart() {
        WaySigns x = building(0, 1, 1, 2, 1, 3, 5, 6, 6, 7, 6, 8);
        x.name(2);
        x.name(7);
        due(22, "no followers", x.posts(), 0);
        x.entrance(0, true);
        due(22, "none comes to the other name", x.posts(), NONE);
        x.moves(1, 3);
        due(22, "one post for both", x.posts(), 2);
        due(22, "and for the second", x.fewest(1), 2);
        x.walk(3, 5, 1);
        x.moves(1, 7);
        due(22, "through both", x.posts(), 1 << 1 | 1 << 6);
    }

    private static void many() {
        WaySigns x = building(0, 1, 1, 2, 1, 3);
        x.open(1, false);
        x.name(3);
        x.name(3);
        x.entrance(0, true);
        x.entrance(9, true);
        x.entrance(4, true);
        x.entrance(4, false);
        x.board(1, 0, 3);
        x.board(1, 1, 3);
        x.board(1, 1, 0);
        x.board(0, 1, 1);
        x.board(2, 0, 1);
        x.unboard(2, 0);
        x.board(3, 0, 1);
        x.detour(77);
        int[] told = {3, 2, 2, 2, 4, 3, 77};
        for (int what = 0; what <= 6; what++) {
            due(23, "many(" + what + ")", x.many(what), told[what]);
        }
        for (int what : new int[] {-1, 7, LEAST, MOST}) {
            due(23, "what", x.many(what), OUTSIDE);
        }
    }
}
