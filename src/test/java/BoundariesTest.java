/**
 * Each sentence of the document that names a boundary case, by a test of its own: the last number that is taken and
 * the first that is not, nothing there yet, as many as there can be. The sentence stands ahead of its answers.
 */
public final class BoundariesTest {
    private static final int UNKNOWN = -1, OUTSIDE = -2, STATE = -3, FULL = -4, NONE = -9;
    private static final int ARRIVED = 0, CHOICE = 1, DEAD_END = 2, BARRED = 3, ROUND = 4;
    private static final int[] PAIRS_OF_FULL = {
        0, 1, 1, 2, 2, 3, 3, 4, 4, 5, 5, 6, 6, 7, 7, 8, 8, 9, 9, 0, 0, 2, 3, 5, 4, 6, 7, 9};

    private static int wrong = 0;
    private static int sentences = 0;
    private static String sentence = "";

    public static void main(String[] args) {
        termsOfWalks();
        termsOfNamesAndEntrances();
        termsOfFar();
        termsOfBoards();
        newObject();
        walkAndUnwalk();
        openAndOfWalk();
        nameAndMoves();
        entranceAndDetour();
        boardUnboardArrow();
        farAndFrom();
        whereTheFollowerStarts();
        whereTheFollowerIsLost();
        whereTheFollowerGoesRound();
        whatIsToldOfAFollower();
        endsAndThose();
        idle();
        mend();
        mendOfSeveral();
        leads();
        fewest();
        posts();
        many();
        howAllIsWhenItIsAsked();
        theLastCall();
        System.out.println(wrong == 0 ? "all " + sentences + " sentences hold" : wrong + " answers are not as due");
        if (wrong != 0) {
            System.exit(1);
        }
    }

    private static void says(String words) {
        sentence = words;
        sentences++;
    }

    private static void due(String what, int got, int want) {
        if (got != want) {
            wrong++;
            System.out.println("\"" + sentence + "\": " + what + " answered " + got + ", due is " + want);
        }
    }

    /** Walks of length 1, 2, 3 .. between the places told in pairs. */
    private static WaySigns building(int... ends) {
        WaySigns x = new WaySigns();
        for (int i = 0; i + 1 < ends.length; i += 2) {
            due("walk of the building", x.walk(ends[i], ends[i + 1], 1 + i / 2), i / 2);
        }
        return x;
    }

    private static int set(int... numbers) {
        int set = 0;
        for (int k : numbers) {
            set |= 1 << k;
        }
        return set;
    }

    private static void way(String what, WaySigns x, int n, int ending, int... places) {
        int start = places[0];
        int last = places.length - 1;
        due(what + ": end", x.follow(start, n, 0), ending);
        due(what + ": walks", x.follow(start, n, 1), last);
        due(what + ": where", x.follow(start, n, 3), places[last]);
        for (int k = 0; k <= last; k++) {
            due(what + ": place " + k, x.follow(start, n, 10 + k), places[k]);
        }
        due(what + ": no place more", x.follow(start, n, 11 + last), NONE);
    }

    private static void mended(String what, WaySigns x, int place, int n, int arrived) {
        due(what + ": place", x.mend(0), place);
        due(what + ": name", x.mend(1), n);
        due(what + ": arrived", x.mend(2), arrived);
    }

    // ---- the terms, part 1

    private static void termsOfWalks() {
        says("PLACES 0 .. 9");
        for (int p = 0; p < 10; p++) {
            WaySigns x = new WaySigns();
            int other = p == 0 ? 9 : 0;
            due("walk from " + p, x.walk(p, other, 1), 0);
            due("name", x.name(p), 0);
            due("entrance", x.entrance(p, true), 1);
            due("board", x.board(p, 0, other), NONE);
            due("board to it", x.board(other, 0, p), NONE);
            due("arrow", x.arrow(p, 0), other);
            due("far", x.far(p, 0, 0), 0);
            due("from", x.from(p), set(other));
            due("follow", x.follow(p, 0, 3), p);
            due("idle", x.idle(p), 1);
            due("unboard", x.unboard(p, 0), other);
            due("moves", x.moves(0, p), p);
        }
        says("WALKS, 14 at most");
        WaySigns x = building(PAIRS_OF_FULL);
        due("fourteen", x.many(0), 14);
        due("the fifteenth", x.walk(0, 5, 1), FULL);
        due("none came", x.many(0), 14);
        due("the last", x.ofWalk(13, 1), 9);
        says("each numbered by how many there are ahead of it (the first one 0)");
        due("the first", x.ofWalk(0, 1), 1);
        due("one is gone", x.unwalk(), 13);
        due("the number comes again", x.walk(8, 6, 55), 13);
        due("and is the new one", x.ofWalk(13, 0), 6);
        due("and is the new one", x.ofWalk(13, 1), 8);
        due("and is the new one", x.ofWalk(13, 2), 55);
        termsOfOneWalk();
    }

    private static void termsOfOneWalk() {
        says("with a LENGTH (1 .. 99)");
        WaySigns x = new WaySigns();
        due("0", x.walk(0, 1, 0), OUTSIDE);
        due("1", x.walk(0, 1, 1), 0);
        due("100", x.walk(1, 2, 100), OUTSIDE);
        due("99", x.walk(1, 2, 99), 1);
        due("is 1", x.ofWalk(0, 2), 1);
        due("is 99", x.ofWalk(1, 2), 99);
        says("OPEN (at first) or closed");
        due("at first", x.ofWalk(1, 3), 1);
        x.open(1, false);
        due("closed", x.ofWalk(1, 3), 0);
        x.unwalk();
        x.walk(1, 2, 99);
        due("a new one where a closed one was", x.ofWalk(1, 3), 1);
        says("no two between the same two PLACES");
        due("the same", x.walk(0, 1, 7), STATE);
        due("the other way", x.walk(1, 0, 7), STATE);
        x.open(1, false);
        due("a closed one", x.walk(2, 1, 7), STATE);
        due("from the one to a third", x.walk(0, 2, 7), 2);
        x.unwalk();
        due("once it is no more", x.walk(2, 0, 8), 2);
        says("One goes along an OPEN WALK either way");
        WaySigns one = building(4, 7);
        one.name(4);
        one.name(7);
        way("up", one, 1, ARRIVED, 4, 7);
        way("down", one, 0, ARRIVED, 7, 4);
        due("far up", one.far(4, 1, 0), 1);
        due("far down", one.far(7, 0, 0), 1);
        one.open(0, false);
        way("closed, up", one, 1, DEAD_END, 4);
        way("closed, down", one, 0, DEAD_END, 7);
    }

    private static void termsOfNamesAndEntrances() {
        says("NAMES, 5 at most, numbered likewise");
        WaySigns x = new WaySigns();
        for (int n = 0; n < 5; n++) {
            due("not yet", x.arrow(0, n), UNKNOWN);
            due("name", x.name(9 - n), n);
        }
        due("the sixth", x.name(0), FULL);
        due("five", x.many(2), 5);
        due("no sixth", x.arrow(0, 5), UNKNOWN);
        says("each at a PLACE");
        for (int n = 0; n < 5; n++) {
            due("it is there", x.far(9 - n, n, 0), 0);
            due("and there alone", x.those(n, ARRIVED), set(9 - n));
        }
        WaySigns y = new WaySigns();
        for (int n = 0; n < 5; n++) {
            due("all at one", y.name(6), n);
            due("it is there", y.those(n, ARRIVED), set(6));
        }
        says("ENTRANCES are some PLACES (none at first)");
        due("none", x.many(3), 0);
        for (int p = 0; p < 10; p++) {
            due("it was none", x.entrance(p, false), 0);
            due("it is", x.entrance(p, true), 1);
            due("so many", x.many(3), p + 1);
        }
        says("DETOUR is 0 .. 999; 0 at first");
        due("at first", x.many(6), 0);
        due("-1", x.detour(-1), OUTSIDE);
        due("1000", x.detour(1000), OUTSIDE);
        due("999", x.detour(999), 0);
        due("0", x.detour(0), 999);
        due("is 0", x.many(6), 0);
    }

    private static void termsOfFar() {
        says("the least LENGTH together of OPEN WALKS by which one comes from there to its PLACE");
        WaySigns x = new WaySigns();
        x.walk(0, 1, 99);
        x.walk(0, 2, 49);
        x.walk(2, 1, 49);
        x.name(1);
        due("two walks, less by one", x.far(0, 0, 0), 98);
        due("by the two", x.far(0, 0, 1), 2);
        x.unwalk();
        x.walk(2, 1, 50);
        due("as long", x.far(0, 0, 0), 99);
        due("of both the lesser next", x.far(0, 0, 1), 1);
        x.unwalk();
        x.walk(2, 1, 51);
        due("more by one", x.far(0, 0, 0), 99);
        due("by the one", x.far(0, 0, 1), 1);
        says("(0, if it is there)");
        due("there", x.far(1, 0, 0), 0);
        due("nowhere else", x.far(2, 0, 0), 51);
        says("of several the least");
        WaySigns y = new WaySigns();
        for (int p : new int[] {8, 6, 4, 7, 5}) {
            y.walk(9, p, 3);
            y.walk(p, 0, 3);
        }
        y.name(0);
        for (int p = 4; p < 9; p++) {
            due("the least that is open", y.far(9, 0, 1), p);
            y.open(2 * new int[] {2, 4, 1, 3, 0}[p - 4] + p % 2, false);
        }
        due("none is left", y.far(9, 0, 1), NONE);
        says("BEST, too, goes by OPEN WALKS");
        WaySigns z = new WaySigns();
        z.walk(8, 9, 1);
        z.walk(1, 9, 1);
        z.walk(5, 8, 1);
        z.walk(5, 1, 1);
        z.name(9);
        due("as far by 1 and by 8", z.far(5, 0, 1), 1);
        z.open(3, false);
        due("as far, but closed", z.far(5, 0, 1), 8);
        z.unwalk();
        due("as far, but no more", z.far(5, 0, 1), 8);
        z.walk(1, 5, 2);
        due("farther", z.far(5, 0, 1), 8);
        says("FAR at its greatest: nine WALKS of 99");
        WaySigns row = new WaySigns();
        for (int p = 0; p < 9; p++) {
            row.walk(p, p + 1, 99);
        }
        row.name(9);
        due("far", row.far(0, 0, 0), 891);
        due("by all", row.follow(0, 0, 2), 891);
    }

    private static void termsOfBoards() {
        says("BOARDS: at a PLACE, for a NAME, there may be one");
        WaySigns x = building(PAIRS_OF_FULL);
        for (int n = 0; n < 5; n++) {
            x.name(n);
            for (int p = 0; p < 10; p++) {
                due("new", x.board(p, n, (p + 1) % 10), NONE);
            }
        }
        due("fifty", x.many(4), 50);
        due("at ten", x.many(5), 10);
        for (int n = 0; n < 5; n++) {
            for (int p = 0; p < 10; p++) {
                due("in place of it", x.board(p, n, (p + 9) % 10), (p + 1) % 10);
            }
        }
        due("still fifty", x.many(4), 50);
        due("another name's", x.unboard(3, 2), 2);
        due("stays", x.arrow(3, 1), 2);
        due("stays", x.arrow(3, 3), 2);
        due("another place's stays", x.arrow(4, 2), 3);
        due("is none", x.arrow(3, 2), NONE);
        says("its ARROW leads to another PLACE");
        due("to itself", x.board(3, 2, 3), STATE);
        due("none came", x.arrow(3, 2), NONE);
    }

    // ---- promises 1 to 9

    private static void newObject() {
        says("No WALKS, NAMES, BOARDS, ENTRANCES");
        WaySigns busy = building(PAIRS_OF_FULL);
        for (int n = 0; n < 5; n++) {
            busy.name(n);
            busy.board(0, n, 1);
        }
        busy.entrance(0, true);
        busy.detour(999);
        WaySigns x = new WaySigns();
        for (int what = 0; what <= 6; what++) {
            due("many " + what, x.many(what), 0);
        }
        due("no walk", x.open(0, true), UNKNOWN);
        due("no walk", x.ofWalk(0, 3), UNKNOWN);
        due("no walk", x.unwalk(), STATE);
        due("no name", x.moves(0, 0), UNKNOWN);
        for (int p = 0; p < 10; p++) {
            due("nowhere to go", x.from(p), 0);
            due("no board", x.idle(p), 0);
            due("no entrance", x.entrance(p, false), 0);
        }
        due("nothing to mend", x.mend(0), NONE);
        due("no posts", x.posts(), 0);
        due("the first name", x.name(0), 0);
        due("no board for it", x.arrow(0, 0), NONE);
        due("the first walk", x.walk(0, 1, 1), 0);
    }

    private static void walkAndUnwalk() {
        says("A WALK between two PLACES: its number");
        WaySigns x = building(PAIRS_OF_FULL);
        says("UNKNOWN: PLACES (they are one: so, too)");
        due("one", new WaySigns().walk(0, 0, 1), UNKNOWN);
        due("one", new WaySigns().walk(9, 9, 1), UNKNOWN);
        due("next to it", new WaySigns().walk(9, 8, 1), 0);
        says("The last WALK is no more: how many are left");
        for (int left = 13; left >= 0; left--) {
            int a = x.ofWalk(left, 0);
            int b = x.ofWalk(left, 1);
            due("joined", x.from(a) >> b & 1, 1);
            due("left", x.unwalk(), left);
            due("it is no more", x.ofWalk(left, 0), UNKNOWN);
            due("it is no more", x.open(left, true), UNKNOWN);
            due("not joined", x.from(a) >> b & 1, 0);
            due("so many", x.many(0), left);
        }
        says("STATE: there is none");
        due("unwalk", x.unwalk(), STATE);
        due("once more", x.unwalk(), STATE);
        due("none", x.many(0), 0);
        due("the first again", x.walk(3, 4, 5), 0);
        says("The last WALK is no more, be it closed");
        x.walk(4, 5, 6);
        x.open(1, false);
        due("unwalk", x.unwalk(), 1);
        due("the open ones", x.many(1), 1);
        due("from", x.from(4), set(3));
        due("a new one", x.walk(4, 5, 6), 1);
        due("leads", x.from(4), set(3, 5));
    }

    private static void openAndOfWalk() {
        says("A WALK is OPEN (true), or closed: 1; 0: it was so");
        WaySigns x = building(PAIRS_OF_FULL);
        for (int k : new int[] {0, 13}) {
            due("it was open", x.open(k, true), 0);
            due("closed", x.open(k, false), 1);
            due("it was closed", x.open(k, false), 0);
            due("open", x.open(k, true), 1);
            due("it was open", x.open(k, true), 0);
        }
        due("no more", x.open(14, false), UNKNOWN);
        due("below", x.open(-1, false), UNKNOWN);
        for (int k = 0; k < 14; k++) {
            due("all may be closed", x.open(k, false), 1);
        }
        due("none is open", x.many(1), 0);
        due("there are as many", x.many(0), 14);
        says("Of a WALK: 0 the lesser, 1 the greater of its PLACES, 2 LENGTH, 3 whether it is OPEN (1, 0)");
        WaySigns y = new WaySigns();
        y.walk(9, 0, 99);
        y.walk(0, 1, 1);
        int[][] told = {{0, 9, 99, 1}, {0, 1, 1, 1}};
        for (int k = 0; k < 2; k++) {
            for (int what = 0; what <= 3; what++) {
                due("of walk " + k, y.ofWalk(k, what), told[k][what]);
            }
            due("above", y.ofWalk(k, 4), OUTSIDE);
            due("below", y.ofWalk(k, -1), OUTSIDE);
        }
        y.open(0, false);
        due("closed", y.ofWalk(0, 3), 0);
        due("the lesser stays", y.ofWalk(0, 0), 0);
        due("the greater stays", y.ofWalk(0, 1), 9);
        due("the length stays", y.ofWalk(0, 2), 99);
    }

    private static void nameAndMoves() {
        says("A NAME is at another PLACE (perhaps the same): where it was");
        WaySigns x = new WaySigns();
        x.name(0);
        x.name(9);
        due("from 0 to 9", x.moves(0, 9), 0);
        due("the same", x.moves(0, 9), 9);
        due("back", x.moves(0, 0), 9);
        due("the last name", x.moves(1, 9), 9);
        due("no name more", x.moves(2, 9), UNKNOWN);
        says("UNKNOWN: NAME, PLACE");
        due("place 10", x.moves(1, 10), UNKNOWN);
        due("place -1", x.moves(1, -1), UNKNOWN);
        due("name -1", x.moves(-1, 0), UNKNOWN);
        due("it stays", x.moves(1, 9), 9);
        says("A NAME that moves keeps its BOARDS");
        WaySigns y = building(0, 1, 1, 2);
        y.name(2);
        y.board(1, 0, 2);
        y.moves(0, 1);
        due("where it is now", y.arrow(1, 0), 2);
        way("arrived", y, 0, ARRIVED, 0, 1);
    }

    private static void entranceAndDetour() {
        says("A PLACE is an ENTRANCE (true), or is none: 1; 0: it was so");
        WaySigns x = new WaySigns();
        for (int p : new int[] {0, 9}) {
            due("it was none", x.entrance(p, false), 0);
            due("one", x.entrance(p, true), 1);
            due("it was one", x.entrance(p, true), 0);
            due("none", x.entrance(p, false), 1);
            due("it was none", x.entrance(p, false), 0);
        }
        due("10", x.entrance(10, true), UNKNOWN);
        due("-1", x.entrance(-1, true), UNKNOWN);
        due("none", x.many(3), 0);
        says("DETOUR becomes v: what it was");
        due("the greatest", x.detour(999), 0);
        due("refused", x.detour(1000), OUTSIDE);
        due("the same", x.detour(999), 999);
        due("the least", x.detour(0), 999);
        due("refused", x.detour(-1), OUTSIDE);
        due("was the least", x.detour(1), 0);
        due("is 1", x.many(6), 1);
    }

    // ---- promises 10 to 14

    private static void boardUnboardArrow() {
        says("in place of the one that is there: where that led (NONE: there was none)");
        WaySigns x = building(5, 0, 5, 9, 0, 9);
        x.name(3);
        due("none", x.board(5, 0, 0), NONE);
        due("led to 0", x.board(5, 0, 9), 0);
        due("led to 9", x.board(5, 0, 9), 9);
        due("led to 9", x.board(5, 0, 0), 9);
        says("Where the ARROW of a BOARD leads; NONE: there is no BOARD");
        due("to 0", x.arrow(5, 0), 0);
        due("none at 0", x.arrow(0, 0), NONE);
        due("none at 9", x.arrow(9, 0), NONE);
        says("STATE: there is no WALK between both PLACES (OPEN or not)");
        x.open(2, false);
        due("closed", x.board(0, 0, 9), NONE);
        due("closed, the other way", x.board(9, 0, 0), NONE);
        x.unwalk();
        due("no more", x.board(0, 0, 9), STATE);
        due("no more, the other way", x.board(9, 0, 0), STATE);
        due("to itself", x.board(5, 0, 5), STATE);
        says("A BOARD stays when its WALK is no more");
        due("0", x.arrow(0, 0), 9);
        due("9", x.arrow(9, 0), 0);
        due("three", x.many(4), 3);
        says("A BOARD is no more: where it led");
        due("9", x.unboard(0, 0), 9);
        due("0", x.unboard(9, 0), 0);
        due("0", x.unboard(5, 0), 0);
        due("none is left", x.many(4), 0);
        says("STATE: there is none (BOARD)");
        due("again", x.unboard(5, 0), STATE);
        due("never was", x.unboard(1, 0), STATE);
        due("a new one", x.board(5, 0, 9), NONE);
        says("UNKNOWN: PLACE, NAME (of BOARDS), the last name and the first that is not");
        for (int n = 1; n < 5; n++) {
            due("not yet", x.board(5, n, 0), UNKNOWN);
            due("not yet", x.unboard(5, n), UNKNOWN);
            due("not yet", x.arrow(5, n), UNKNOWN);
            x.name(n);
            due("new", x.board(5, n, 0), NONE);
            due("leads", x.arrow(5, n), 0);
            due("no more", x.unboard(5, n), 0);
        }
    }

    private static void farAndFrom() {
        says("BEST there (1; NONE: the NAME is there); NONE: one does not come there");
        WaySigns x = building(0, 9, 9, 8, 1, 2);
        x.name(9);
        due("there", x.far(9, 0, 0), 0);
        due("there", x.far(9, 0, 1), NONE);
        due("next to it", x.far(0, 0, 1), 9);
        due("apart", x.far(5, 0, 0), NONE);
        due("apart", x.far(5, 0, 1), NONE);
        due("apart, with a walk", x.far(1, 0, 0), NONE);
        due("apart, with a walk", x.far(1, 0, 1), NONE);
        x.moves(0, 0);
        due("best is 9", x.far(8, 0, 1), 9);
        due("best is 0", x.far(9, 0, 1), 0);
        says("FAR (what 0), BEST (1); OUTSIDE");
        due("2", x.far(8, 0, 2), OUTSIDE);
        due("-1", x.far(8, 0, -1), OUTSIDE);
        says("FAR goes by OPEN WALKS, BOARDS or none");
        x.board(9, 0, 8);
        due("against the arrow", x.far(8, 0, 0), 3);
        x.open(0, false);
        due("closed", x.far(8, 0, 0), NONE);
        says("PLACES to which OPEN WALKS lead from a PLACE, as a set");
        due("one closed", x.from(9), set(8));
        due("closed", x.from(0), 0);
        due("none at all", x.from(5), 0);
        WaySigns star = new WaySigns();
        for (int p = 0; p < 9; p++) {
            star.walk(9, p, 1);
        }
        due("to all others", star.from(9), 511);
        due("to one", star.from(0), set(9));
        due("to one", star.from(8), set(9));
    }

    // ---- the terms, part 2, and promise 15

    private static void whereTheFollowerStarts() {
        says("at a PLACE where the NAME is he has ARRIVED");
        WaySigns x = building(0, 1, 1, 2, 1, 3);
        x.name(1);
        way("at once, among several walks", x, 0, ARRIVED, 1);
        x.board(1, 0, 3);
        way("whatever the board says", x, 0, ARRIVED, 1);
        x.open(2, false);
        way("be its walk closed", x, 0, ARRIVED, 1);
        way("on the way, too", x, 0, ARRIVED, 0, 1);
        x.moves(0, 9);
        x.unboard(1, 0);
        due("and where there is no walk", x.follow(9, 0, 0), ARRIVED);
        says("(as he starts he came by none)");
        way("one walk", x, 0, DEAD_END, 0, 1, 2);
        way("two walks, both count", x, 0, CHOICE, 1);
        way("no walk", x, 0, DEAD_END, 3);
        says("if there is just one OPEN WALK, not counting the one by which he came");
        way("two walks, one counts", x, 0, DEAD_END, 2, 1, 0);
        x.open(2, true);
        way("three walks, two count", x, 0, CHOICE, 2, 1);
        x.open(0, false);
        way("a closed one does not count", x, 0, DEAD_END, 2, 1, 3);
        x.open(2, false);
        way("none counts", x, 0, DEAD_END, 2, 1);
        says("1 there are several WALKS, and no BOARD: how many they may be");
        WaySigns star = new WaySigns();
        for (int p = 0; p < 9; p++) {
            star.walk(9, p, 1);
        }
        star.name(8);
        way("eight of nine", star, 0, CHOICE, 0, 9);
        way("nine", star, 0, CHOICE, 9);
        star.board(9, 0, 8);
        way("a board", star, 0, ARRIVED, 0, 9, 8);
    }

    private static void whereTheFollowerIsLost() {
        says("if there is a BOARD for the NAME, he goes by its ARROW, if there is an OPEN WALK there");
        WaySigns x = building(0, 1, 1, 2, 1, 3);
        x.name(9);
        x.name(9);
        x.board(1, 0, 3);
        way("by the arrow", x, 0, DEAD_END, 0, 1, 3);
        way("another name's board is none", x, 1, CHOICE, 0, 1);
        says("(be it the one by which he came)");
        x.board(1, 0, 0);
        way("back", x, 0, DEAD_END, 0, 1, 0);
        due("both lengths", x.follow(0, 0, 2), 2);
        says("if there is none, he is lost: 3 there is no OPEN WALK by the ARROW");
        x.board(1, 0, 3);
        x.open(2, false);
        way("closed, with one other way", x, 0, BARRED, 0, 1);
        x.open(1, false);
        way("closed, with no other way", x, 0, BARRED, 0, 1);
        way("closed, as he starts", x, 0, BARRED, 1);
        x.unwalk();
        way("no more", x, 0, BARRED, 1);
        x.open(0, false);
        way("no open walk, but a board", x, 0, BARRED, 1);
        says("2 there is none, and no BOARD");
        way("closed, without a board", x, 1, DEAD_END, 1);
        way("nothing there", x, 0, DEAD_END, 7);
        x.open(0, true);
        x.unboard(1, 0);
        way("back does not count", x, 0, DEAD_END, 0, 1);
    }

    private static void whereTheFollowerGoesRound() {
        says("As soon as he comes to a PLACE by a WALK by which he came to it before, he is lost");
        WaySigns x = building(0, 1, 1, 2, 2, 0);
        x.name(9);
        x.board(0, 0, 1);
        way("the start counts once he comes by a walk", x, 0, ROUND, 0, 1, 2, 0, 1);
        due("the walk's length once more", x.follow(0, 0, 2), 1 + 2 + 3 + 1);
        x.board(0, 0, 2);
        way("the other way round", x, 0, ROUND, 0, 2, 1, 0, 2);
        way("to a place by another walk is no end", x, 0, CHOICE, 1);
        x.board(1, 0, 0);
        way("by 1 to 0 once", x, 0, ROUND, 1, 0, 2, 1, 0);
        says("by the same WALK the other way is no end");
        WaySigns row = building(0, 1, 1, 2);
        row.name(9);
        row.board(2, 0, 1);
        way("there and back", row, 0, DEAD_END, 0, 1, 2, 1, 0);
        row.board(0, 0, 1);
        way("and once more", row, 0, ROUND, 0, 1, 2, 1, 0, 1);
        says("who comes to the NAME has ARRIVED ahead of all else");
        row.moves(0, 1);
        way("at the first", row, 0, ARRIVED, 0, 1);
        says("4 as early as it can be: two PLACES, each ARROW to the other");
        WaySigns two = building(0, 1);
        two.name(9);
        two.board(0, 0, 1);
        two.board(1, 0, 0);
        way("from 0", two, 0, ROUND, 0, 1, 0, 1);
        way("from 1", two, 0, ROUND, 1, 0, 1, 0);
        says("4 as late as it can be: nine PLACES in a row, there and back and on");
        WaySigns nine = new WaySigns();
        for (int p = 0; p < 8; p++) {
            nine.walk(p, p + 1, 99);
        }
        nine.name(9);
        nine.board(0, 0, 1);
        nine.board(8, 0, 7);
        way("all", nine, 0, ROUND, 0, 1, 2, 3, 4, 5, 6, 7, 8, 7, 6, 5, 4, 3, 2, 1, 0, 1);
        due("lengths", nine.follow(0, 0, 2), 17 * 99);
    }

    private static void whatIsToldOfAFollower() {
        says("10 and k the k-th PLACE of his WAY (k 0 .. 40; NONE: there are not so many)");
        WaySigns x = building(0, 1, 1, 2);
        x.name(2);
        due("the first", x.follow(0, 0, 10), 0);
        due("the last", x.follow(0, 0, 12), 2);
        due("not so many", x.follow(0, 0, 13), NONE);
        due("the greatest k", x.follow(0, 0, 50), NONE);
        due("the only one", x.follow(2, 0, 10), 2);
        due("not two", x.follow(2, 0, 11), NONE);
        says("OUTSIDE: what (0 .. 3, 10 .. 50)");
        for (int what : new int[] {-1, 4, 9, 51}) {
            due("what " + what, x.follow(0, 0, what), OUTSIDE);
        }
        for (int what : new int[] {0, 3, 10, 50}) {
            due("what " + what, x.follow(0, 0, what) == OUTSIDE ? 1 : 0, 0);
        }
        says("1 how many WALKS he goes, 2 their LENGTHS together, 3 where he is at the end: who goes none");
        for (int p : new int[] {2, 9, 1}) {
            due("walks", x.follow(p, 0, 1), 0);
            due("lengths", x.follow(p, 0, 2), 0);
            due("where", x.follow(p, 0, 3), p);
        }
        due("arrived", x.follow(2, 0, 0), ARRIVED);
        due("none", x.follow(9, 0, 0), DEAD_END);
        due("several", x.follow(1, 0, 0), CHOICE);
        says("what is told of one WAY is not of the one asked ahead of it");
        due("long", x.follow(0, 0, 12), 2);
        due("short", x.follow(9, 0, 12), NONE);
        due("short", x.follow(9, 0, 11), NONE);
        due("long again", x.follow(0, 0, 12), 2);
    }

    // ---- the terms, part 3, and promises 16 to 19

    private static void endsAndThose() {
        says("FOLLOWERS: one for each ENTRANCE and each NAME: none");
        WaySigns x = building(PAIRS_OF_FULL);
        for (int how = 0; how <= 4; how++) {
            due("no entrance, no name", x.ends(how), 0);
        }
        x.entrance(0, true);
        for (int how = 0; how <= 4; how++) {
            due("no name", x.ends(how), 0);
        }
        WaySigns y = new WaySigns();
        y.name(0);
        for (int how = 0; how <= 4; how++) {
            due("no entrance", y.ends(how), 0);
        }
        says("FOLLOWERS: one for each ENTRANCE and each NAME: fifty");
        for (int n = 1; n < 5; n++) {
            y.name(0);
        }
        for (int p = 0; p < 10; p++) {
            y.entrance(p, true);
        }
        due("arrived", y.ends(0), 5);
        due("the others", y.ends(2), 45);
        says("How many FOLLOWERS' WAYS END so (0 .. 4)");
        due("-1", y.ends(-1), OUTSIDE);
        due("5", y.ends(5), OUTSIDE);
        due("4", y.ends(4), 0);
        eachEnd();
    }

    /** At 2 there is a choice, from 3 one goes on through it; 4 is barred, 6 and 7 send each to the other. */
    private static void eachEnd() {
        WaySigns x = building(0, 1, 2, 0, 2, 3, 3, 4, 6, 7);
        x.name(0);
        x.board(4, 0, 3);
        x.board(6, 0, 7);
        x.board(7, 0, 6);
        x.open(3, false);
        int[] those = {set(0, 1, 3), set(2), set(5, 8, 9), set(4), set(6, 7)};
        says("PLACES from which one who FOLLOWS a NAME has ARRIVED in the end (how 0), ENDS otherwise, so (1 .. 4)");
        for (int p : new int[] {1, 2, 4, 5, 6}) {
            x.entrance(p, true);
        }
        for (int how = 0; how <= 4; how++) {
            due("those " + how, x.those(0, how), those[how]);
        }
        due("-1", x.those(0, -1), OUTSIDE);
        due("5", x.those(0, 5), OUTSIDE);
        says("UNKNOWN: NAME (of those)");
        due("the last", x.those(0, 4), set(6, 7));
        due("the first that is not", x.those(1, 4), UNKNOWN);
        due("below", x.those(-1, 4), UNKNOWN);
        says("FOLLOWERS start at ENTRANCES alone");
        for (int how = 0; how <= 4; how++) {
            due("one ends so", x.ends(how), 1);
        }
        says("without ENTRANCES those are the same");
        for (int p = 0; p < 10; p++) {
            x.entrance(p, false);
        }
        for (int how = 0; how <= 4; how++) {
            due("those " + how, x.those(0, how), those[how]);
            due("no follower", x.ends(how), 0);
        }
        says("all PLACES as a set");
        WaySigns y = new WaySigns();
        y.name(0);
        due("all but one", y.those(0, DEAD_END), 1022);
        for (int p = 1; p < 10; p++) {
            y.walk(0, p, p);
        }
        due("all", y.those(0, ARRIVED), 1023);
    }

    private static void idle() {
        says("NAMES whose BOARDS at a PLACE are IDLE, as a set: there is no BOARD, no NAME");
        WaySigns x = building(0, 1, 1, 2);
        due("no name", x.idle(0), 0);
        for (int n = 0; n < 5; n++) {
            x.name(2);
        }
        x.entrance(0, true);
        due("no board", x.idle(0), 0);
        says("NAMES whose BOARDS at a PLACE are IDLE, as a set: all five");
        for (int n = 0; n < 5; n++) {
            x.board(0, n, 1);
        }
        due("all", x.idle(0), 31);
        due("none elsewhere", x.idle(1), 0);
        says("without which all FOLLOWERS of its NAME had the same WAYS");
        for (int n = 0; n < 5; n++) {
            x.board(1, n, n == 4 ? 0 : 2);
        }
        due("one leads back", x.idle(1), 15);
        due("and is turned there", x.idle(0), 15);
        x.entrance(1, true);
        due("a start among two walks", x.idle(1), 0);
        says("(it alone)");
        WaySigns y = building(0, 1, 1, 2, 2, 0);
        y.name(9);
        y.entrance(0, true);
        y.board(0, 0, 1);
        y.board(1, 0, 2);
        y.board(2, 0, 0);
        due("needed at the start", y.idle(0), 0);
        due("each of the others", y.idle(1), 1);
        due("each of the others", y.idle(2), 1);
        idleByOtherWays();
        says("and these ENDED alike");
        WaySigns z = building(0, 1);
        z.name(9);
        z.entrance(0, true);
        z.board(0, 0, 1);
        due("goes there in any case", z.idle(0), 1);
        z.open(0, false);
        due("the same way of one place, another end", z.idle(0), 0);
        says("all FOLLOWERS of its NAME: there are none");
        z.entrance(0, false);
        due("no entrance", z.idle(0), 1);
        says("where the NAME is no BOARD changes a WAY");
        z.entrance(0, true);
        z.moves(0, 0);
        due("at its place", z.idle(0), 1);
        says("UNKNOWN (idle)");
        due("-1", z.idle(-1), UNKNOWN);
        due("10", z.idle(10), UNKNOWN);
        due("9", z.idle(9), 0);
    }

    private static void idleByOtherWays() {
        says("the same WAYS: as many PLACES, but others");
        WaySigns x = building(0, 1, 1, 2);
        x.name(9);
        x.entrance(0, true);
        x.board(1, 0, 0);
        way("with it", x, 0, DEAD_END, 0, 1, 0);
        due("back, not on", x.idle(1), 0);
        x.unboard(1, 0);
        way("without it", x, 0, DEAD_END, 0, 1, 2);
        says("the same WAYS: more PLACES without it, the same END");
        WaySigns y = building(0, 1, 1, 2, 1, 3, 2, 4);
        y.name(9);
        y.entrance(0, true);
        y.board(1, 0, 3);
        y.board(2, 0, 4);
        y.open(2, false);
        y.open(3, false);
        way("with it", y, 0, BARRED, 0, 1);
        due("barred sooner", y.idle(1), 0);
        y.unboard(1, 0);
        way("without it", y, 0, BARRED, 0, 1, 2);
        says("the same WAYS: fewer PLACES without it, the same END");
        WaySigns z = building(0, 1, 1, 2, 1, 3, 2, 4, 2, 5);
        z.name(9);
        z.entrance(0, true);
        z.board(1, 0, 2);
        way("with it", z, 0, CHOICE, 0, 1, 2);
        due("a choice later", z.idle(1), 0);
        z.unboard(1, 0);
        way("without it", z, 0, CHOICE, 0, 1);
    }

    private static void mend() {
        says("MEND: NONE: by none more than now: there are no FOLLOWERS");
        WaySigns x = building(0, 1, 1, 2, 1, 3);
        mended("no name, no entrance", x, NONE, NONE, NONE);
        x.entrance(0, true);
        mended("no name", x, NONE, NONE, NONE);
        x.name(2);
        x.entrance(0, false);
        mended("no entrance", x, NONE, NONE, NONE);
        says("the one by which the most FOLLOWERS had ARRIVED, more than now");
        x.entrance(0, true);
        mended("one", x, 1, 0, 1);
        x.entrance(2, true);
        mended("the one who is there counts, too", x, 1, 0, 2);
        x.entrance(3, true);
        mended("two by it", x, 1, 0, 3);
        says("it is only told");
        due("no board came", x.many(4), 0);
        due("no more arrive", x.ends(0), 1);
        says("for a NAME for which there is none there");
        x.board(1, 0, 3);
        mended("a wrong one is there", x, NONE, NONE, NONE);
        x.board(1, 0, 2);
        mended("all arrive", x, NONE, NONE, NONE);
        x.unboard(1, 0);
        mended("it is no more", x, 1, 0, 3);
        says("(where there is a BEST, and the NAME is not)");
        x.open(1, false);
        mended("one does not come there", x, NONE, NONE, NONE);
        x.moves(0, 1);
        mended("it is there, all arrive", x, NONE, NONE, NONE);
        due("all but the one apart", x.ends(0), 2);
        says("by none more than now: one BOARD is not enough");
        WaySigns y = building(0, 1, 1, 2, 1, 3, 3, 4, 3, 5);
        y.name(5);
        y.entrance(0, true);
        mended("two choices", y, NONE, NONE, NONE);
        y.board(3, 0, 5);
        mended("one choice", y, 1, 0, 1);
        says("OUTSIDE (mend)");
        due("-1", y.mend(-1), OUTSIDE);
        due("3", y.mend(3), OUTSIDE);
    }

    private static void mendOfSeveral() {
        says("of several that of the least PLACE");
        WaySigns x = building(9, 0, 9, 1, 9, 2, 8, 4, 8, 5, 8, 6);
        x.name(1);
        x.name(5);
        x.entrance(0, true);
        x.entrance(4, true);
        mended("the place ahead of the name", x, 8, 1, 1);
        says("then of the least NAME");
        x.name(5);
        x.name(1);
        mended("two names at 8", x, 8, 1, 1);
        x.board(8, 1, 5);
        mended("the other name at 8", x, 8, 2, 2);
        x.board(8, 2, 5);
        mended("two names at 9", x, 9, 0, 3);
        x.board(9, 0, 1);
        mended("the last of all", x, 9, 3, 4);
        x.board(9, 3, 1);
        mended("none is left", x, NONE, NONE, NONE);
        says("the most go ahead of the least PLACE and NAME");
        x.unboard(8, 1);
        x.unboard(9, 3);
        x.entrance(2, true);
        mended("two by the greater", x, 9, 3, 5);
        says("MEND at PLACE 0 and at PLACE 9, of NAME 0 and of NAME 4");
        WaySigns low = building(0, 1, 0, 2, 0, 3);
        low.name(1);
        low.entrance(2, true);
        mended("0", low, 0, 0, 1);
        WaySigns high = building(9, 1, 9, 2, 9, 3);
        for (int n = 0; n < 5; n++) {
            high.name(n == 4 ? 1 : 8);
        }
        high.entrance(2, true);
        mended("9", high, 9, 4, 1);
    }

    // ---- the terms, part 4, and promises 20 to 23

    private static void leads() {
        says("Whether a set of PLACES (0 .. 1023) LEADS to a NAME: 1, 0");
        WaySigns x = new WaySigns();
        x.walk(0, 1, 1);
        x.walk(0, 2, 1);
        for (int p = 3; p < 10; p++) {
            x.walk(0, p, 1);
        }
        x.name(1);
        x.entrance(9, true);
        due("the empty set", x.leads(0, 0), 0);
        due("one", x.leads(1, 0), 1);
        due("all but the name's place", x.leads(1021, 0), 1);
        due("all", x.leads(1023, 0), 0);
        due("1024", x.leads(1024, 0), OUTSIDE);
        due("-1", x.leads(-1, 0), OUTSIDE);
        says("UNKNOWN: NAME; OUTSIDE (leads)");
        due("the first that is not", x.leads(1, 1), UNKNOWN);
        due("below", x.leads(1, -1), UNKNOWN);
        says("(each has a BEST, and the NAME is at none of them)");
        due("the name's place with it", x.leads(set(0, 1), 0), 0);
        x.open(1, false);
        due("one without a best with it", x.leads(set(0, 2), 0), 0);
        due("the rest", x.leads(set(0, 3), 0), 1);
        x.entrance(9, false);
        due("without followers: the name's place", x.leads(set(1), 0), 0);
        due("without followers: one without a best", x.leads(set(2), 0), 0);
        due("without followers: none", x.leads(0, 0), 1);
        for (int p = 0; p < 10; p++) {
            WaySigns each = new WaySigns();
            each.name(p);
            due("the name's place", each.leads(set(p), 0), 0);
            due("a place without a walk", each.leads(set(9 - p), 0), 0);
            each.walk(p, 9 - p, 1);
            due("a place with a best", each.leads(set(9 - p), 0), 1);
            due("the name's place, with a walk", each.leads(set(p), 0), 0);
        }
        says("and so all its FOLLOWERS had ARRIVED");
        x.entrance(8, true);
        x.entrance(9, true);
        due("two", x.leads(1, 0), 1);
        x.entrance(2, true);
        due("one is apart", x.leads(1, 0), 0);
        x.entrance(2, false);
        says("in place of all BOARDS for it");
        x.board(0, 0, 1);
        due("a board that is counts for nothing", x.leads(0, 0), 0);
        x.board(0, 0, 9);
        due("nor a wrong one", x.leads(1, 0), 1);
        x.board(9, 0, 0);
        x.board(8, 0, 0);
        due("nor elsewhere", x.leads(set(9), 0), 0);
        says("each by LENGTHS of its WAY that are together no more than FAR and DETOUR");
        WaySigns y = building(0, 1, 1, 2, 0, 2);
        y.name(2);
        y.entrance(0, true);
        due("just FAR, DETOUR 0: both ways are as long", y.leads(1, 0), 1);
        y.detour(999);
        due("DETOUR 999", y.leads(1, 0), 1);
        due("a choice stays one", y.leads(0, 0), 0);
    }

    private static void fewest() {
        says("FEWEST of a NAME: the empty set");
        WaySigns x = building(0, 1, 1, 2, 1, 3, 8, 9);
        x.name(3);
        due("no followers", x.fewest(0), 0);
        x.entrance(3, true);
        due("from the name's place", x.fewest(0), 0);
        x.open(1, false);
        x.entrance(0, true);
        due("no choice on the way", x.fewest(0), 0);
        says("the set of the fewest PLACES that LEADS to it");
        x.open(1, true);
        due("one choice", x.fewest(0), set(1));
        due("it leads", x.leads(set(1), 0), 1);
        says("NONE: no set LEADS to it");
        x.entrance(2, true);
        due("all come there", x.fewest(0), set(1));
        x.entrance(8, true);
        due("one does not", x.fewest(0), NONE);
        x.moves(0, 8);
        due("the others do not", x.fewest(0), NONE);
        says("UNKNOWN (fewest)");
        due("the first that is not", x.fewest(1), UNKNOWN);
        due("below", x.fewest(-1), UNKNOWN);
        says("FEWEST as many as can be: a row, all of it ENTRANCES, with a PLACE beside the first");
        WaySigns row = new WaySigns();
        for (int p = 0; p < 9; p++) {
            row.walk(p, p + 1, 1);
            row.entrance(p, true);
        }
        row.name(9);
        due("all but the end and the name's place", row.fewest(0), set(1, 2, 3, 4, 5, 6, 7, 8));
        row.walk(0, 2, 99);
        due("0 has a choice now", row.fewest(0), set(0, 1, 2, 3, 4, 5, 6, 7, 8));
    }

    private static void posts() {
        says("POSTS: the empty set");
        WaySigns x = building(0, 1, 1, 2, 1, 3, 8, 9);
        due("no names", x.posts(), 0);
        x.entrance(0, true);
        due("no names, an entrance", x.posts(), 0);
        x.entrance(0, false);
        for (int n = 0; n < 5; n++) {
            x.name(n);
        }
        due("no entrances", x.posts(), 0);
        says("NONE: there is no such set");
        x.entrance(0, true);
        due("name 4 is apart", x.posts(), NONE);
        x.moves(4, 9);
        due("still", x.posts(), NONE);
        says("those of them that have a BEST for it and where it is not, LEAD to it");
        x.moves(4, 3);
        due("1 is where name 1 is", x.posts(), set(1));
        due("and does not lead to it", x.leads(set(1), 1), 0);
        due("the empty set does", x.fewest(1), 0);
        x.entrance(1, true);
        due("1 is an entrance, too", x.posts(), set(1));
        says("POSTS as many as can be: all PLACES");
        WaySigns ring = new WaySigns();
        for (int p = 0; p < 10; p++) {
            ring.walk(p, (p + 1) % 10, 9);
            ring.entrance(p, true);
        }
        ring.name(0);
        due("all but the name's place", ring.posts(), 1022);
        ring.name(5);
        due("all", ring.posts(), 1023);
        due("of one name", ring.fewest(1), 1023 & ~set(5));
    }

    private static void many() {
        says("How many: 0 WALKS, 1 OPEN ones, 2 NAMES, 3 ENTRANCES, 4 BOARDS, 5 PLACES with any BOARD, 6 DETOUR");
        WaySigns x = building(PAIRS_OF_FULL);
        for (int what = 2; what <= 6; what++) {
            due("none yet", x.many(what), 0);
        }
        for (int p = 0; p < 10; p++) {
            x.entrance(p, true);
        }
        for (int n = 0; n < 5; n++) {
            x.name(9);
            for (int p = 0; p < 10; p++) {
                x.board(p, n, (p + 1) % 10);
            }
        }
        x.detour(999);
        int[] told = {14, 14, 5, 10, 50, 10, 999};
        for (int what = 0; what <= 6; what++) {
            due("as many as can be", x.many(what), told[what]);
        }
        due("-1", x.many(-1), OUTSIDE);
        due("7", x.many(7), OUTSIDE);
        says("PLACES with any BOARD: each NAME's at another PLACE, all at one");
        WaySigns y = building(PAIRS_OF_FULL);
        for (int n = 0; n < 5; n++) {
            y.name(9);
            y.board(n + 2, n, n + 3);
            due("one more", y.many(5), n + 1);
        }
        for (int n = 0; n < 5; n++) {
            y.unboard(n + 2, n);
            y.board(8, n, 9);
            due("one less, but the one", y.many(5), 5 - n);
        }
        due("five at one", y.many(4), 5);
        says("PLACES with any BOARD: the last one goes");
        for (int n = 0; n < 5; n++) {
            due("still ten", x.many(5), 10);
            x.unboard(9, n);
        }
        due("nine", x.many(5), 9);
        due("45", x.many(4), 45);
        says("BOARDS are counted, be their WALKS closed or no more, be the NAME there");
        x.open(0, false);
        x.unwalk();
        x.moves(0, 0);
        due("45", x.many(4), 45);
        due("closed and gone", x.many(1), 12);
    }

    // ---- what holds for all calls

    private static void howAllIsWhenItIsAsked() {
        says("All that is told is by how all is when it is asked");
        WaySigns x = building(0, 1, 1, 2, 1, 3);
        x.name(2);
        x.entrance(0, true);
        asked("at first", x, 3, set(1), 1);
        x.open(2, false);
        asked("one closed", x, 3, 0, NONE);
        x.open(2, true);
        asked("open again", x, 3, set(1), 1);
        x.unwalk();
        asked("one no more", x, 3, 0, NONE);
        x.walk(1, 4, 1);
        asked("another", x, 3, set(1), 1);
        x.moves(0, 1);
        asked("moved", x, 1, 0, NONE);
        x.moves(0, 4);
        asked("moved again", x, 2, set(1), 1);
        x.open(0, false);
        asked("cut off", x, NONE, NONE, NONE);
        x.open(0, true);
        x.board(1, 0, 4);
        asked("a board", x, 2, set(1), NONE);
        x.unboard(1, 0);
        asked("no board", x, 2, set(1), 1);
        x.entrance(0, false);
        asked("no entrance", x, 2, 0, NONE);
    }

    private static void asked(String what, WaySigns x, int far, int fewest, int mend) {
        due(what + ": far", x.far(0, 0, 0), far);
        due(what + ": fewest", x.fewest(0), fewest);
        due(what + ": posts", x.posts(), fewest);
        due(what + ": mend", x.mend(0), mend);
        due(what + ": leads", x.leads(Math.max(fewest, 0), 0), fewest == NONE ? 0 : 1);
    }

    private static void theLastCall() {
        says("An object is used for at most 512 calls after it has been made");
        WaySigns x = new WaySigns();
        for (int round = 0; round < 127; round++) {
            due("walk", x.walk(round % 9, 9, 99), 0);
            due("open", x.open(0, false), 1);
            due("unwalk", x.unwalk(), 0);
            due("detour", x.detour(round + 1), round);
        }
        due("walk", x.walk(0, 1, 1), 0);
        due("name", x.name(1), 0);
        due("entrance", x.entrance(0, true), 1);
        due("the 512th", x.follow(0, 0, 0), ARRIVED);
    }
}
