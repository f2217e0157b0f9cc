import java.util.ArrayList;
import java.util.Arrays;
import java.util.List;
import java.util.Set;
import java.util.TreeSet;

/**
 * The document's paragraph on REFUSALS: what each call refuses, that of two refusals that fit the first of its line is
 * answered, and that a refused call changes nothing. Each case has an object of its own and a twin without the call.
 */
public final class RefusalsTest {
    private static final int UNKNOWN = -1, OUTSIDE = -2, STATE = -3, FULL = -4;
    private static final int LEAST = Integer.MIN_VALUE, MOST = Integer.MAX_VALUE;
    private static final int[] NO_PLACES = {-1, 10, LEAST, MOST, -9, 15, 16, 31, 32, 33};
    private static final int NOTHING = 0, SOME = 1, AS_MANY_AS_CAN_BE = 2;
    private static final String[] STATES = {"with nothing there", "with some of each", "with as many as can be"};

    private static int wrong = 0;
    private static final Set<String> REFUSED = new TreeSet<>();

    private interface Call {
        int on(WaySigns x);
    }

    public static void main(String[] args) {
        for (int state = NOTHING; state <= AS_MANY_AS_CAN_BE; state++) {
            places(state);
            walksThatAreNot(state);
            namesThatAreNot(state);
            otherNumbers(state);
            unknownComesFirst(state);
            askingChangesNothing(state);
        }
        stateAndFull();
        outsideAheadOfStateAndFull();
        outsideAheadOfNone();
        eachHasRefused();
        System.out.println(wrong == 0 ? "all refusals are as due" : wrong + " refusals are not as due");
        if (wrong != 0) {
            System.exit(1);
        }
    }

    private static void tell(String words) {
        wrong++;
        System.out.println(words);
    }

    // ---- the three states, and all that can be seen of one

    private static WaySigns made(int state) {
        WaySigns x = new WaySigns();
        if (state == SOME) {
            makeSome(x);
        } else if (state == AS_MANY_AS_CAN_BE) {
            makeAll(x);
        }
        return x;
    }

    /** Three walks, the middle one closed; two names, two entrances, three boards. */
    private static void makeSome(WaySigns x) {
        x.walk(1, 0, 5);
        x.walk(1, 2, 6);
        x.walk(3, 1, 7);
        x.open(1, false);
        x.name(3);
        x.name(2);
        x.entrance(0, true);
        x.entrance(9, true);
        x.board(1, 0, 3);
        x.board(1, 1, 2);
        x.board(3, 0, 1);
        x.detour(4);
    }

    private static void makeAll(WaySigns x) {
        for (int p = 0; p < 10; p++) {
            x.walk(p, (p + 1) % 10, 99 - p);
            x.entrance(p, true);
        }
        x.walk(0, 2, 1);
        x.walk(3, 5, 2);
        x.walk(4, 6, 3);
        x.walk(7, 9, 4);
        x.open(4, false);
        for (int n = 0; n < 5; n++) {
            x.name(2 * n + 1);
            for (int p = 0; p < 10; p++) {
                x.board(p, n, (p + (n % 2 == 0 ? 1 : 9)) % 10);
            }
        }
        x.detour(999);
    }

    /** The answers of every kind; at the end come calls that change, for what no call merely tells. */
    private static List<Integer> allThatIsSeen(WaySigns x) {
        List<Integer> seen = new ArrayList<>();
        for (int what = 0; what <= 6; what++) {
            seen.add(x.many(what));
        }
        for (int k = 0; k < 14; k++) {
            for (int what = 0; what <= 3; what++) {
                seen.add(x.ofWalk(k, what));
            }
        }
        for (int n = 0; n < 5; n++) {
            for (int p = 0; p < 10; p++) {
                seen.add(x.arrow(p, n));
                seen.add(x.far(p, n, 0));
                seen.add(x.far(p, n, 1));
            }
            for (int how = 0; how <= 4; how++) {
                seen.add(x.those(n, how));
            }
            seen.add(x.fewest(n));
        }
        for (int p = 0; p < 10; p++) {
            seen.add(x.from(p));
            seen.add(x.idle(p));
        }
        for (int what = 0; what <= 4; what++) {
            seen.add(x.ends(what));
            seen.add(x.mend(what));
        }
        seen.add(x.posts());
        for (int p = 0; p < 10; p++) {
            seen.add(x.entrance(p, true));
        }
        for (int n = 0; n < 5; n++) {
            seen.add(x.moves(n, 0));
        }
        seen.add(x.name(0));
        seen.add(x.walk(8, 0, 1));
        seen.add(x.unwalk());
        seen.add(x.detour(0));
        return seen;
    }

    private static void refuses(int state, String words, int due, Call call) {
        WaySigns x = made(state);
        int got = call.on(x);
        if (got != due) {
            tell(words + ", " + STATES[state] + ", answered " + got + ", due is " + due);
        }
        if (!allThatIsSeen(x).equals(allThatIsSeen(made(state)))) {
            tell(words + ", " + STATES[state] + ", was refused and yet changed something");
        }
        REFUSED.add(words.substring(0, words.indexOf(':')) + " " + due);
    }

    // ---- UNKNOWN: there is no such PLACE, WALK, NAME

    private static void places(int state) {
        for (int p : NO_PLACES) {
            String not = ": place " + p;
            refuses(state, "walk" + not, UNKNOWN, x -> x.walk(p, 4, 1));
            refuses(state, "walk" + not + " as the second", UNKNOWN, x -> x.walk(4, p, 1));
            refuses(state, "walk" + not + " twice", UNKNOWN, x -> x.walk(p, p, 1));
            refuses(state, "name" + not, UNKNOWN, x -> x.name(p));
            refuses(state, "entrance" + not, UNKNOWN, x -> x.entrance(p, true));
            refuses(state, "entrance" + not + ", false", UNKNOWN, x -> x.entrance(p, false));
            refuses(state, "from" + not, UNKNOWN, x -> x.from(p));
            refuses(state, "idle" + not, UNKNOWN, x -> x.idle(p));
            refuses(state, "moves" + not, UNKNOWN, x -> x.moves(0, p));
            refuses(state, "board" + not, UNKNOWN, x -> x.board(p, 0, 1));
            refuses(state, "board" + not + " as the other", UNKNOWN, x -> x.board(1, 0, p));
            refuses(state, "board" + not + " twice", UNKNOWN, x -> x.board(p, 0, p));
            refuses(state, "unboard" + not, UNKNOWN, x -> x.unboard(p, 0));
            refuses(state, "arrow" + not, UNKNOWN, x -> x.arrow(p, 0));
            refuses(state, "far" + not, UNKNOWN, x -> x.far(p, 0, 0));
            refuses(state, "far" + not + ", best", UNKNOWN, x -> x.far(p, 0, 1));
            refuses(state, "follow" + not, UNKNOWN, x -> x.follow(p, 0, 0));
            refuses(state, "follow" + not + ", way", UNKNOWN, x -> x.follow(p, 0, 10));
        }
        for (int p = 0; p < 10; p++) {
            int same = p;
            refuses(state, "walk: from " + p + " to itself", UNKNOWN, x -> x.walk(same, same, 1));
        }
    }

    private static void walksThatAreNot(int state) {
        int first = new int[] {0, 3, 14}[state];
        for (int k : new int[] {-1, first, 14, 15, LEAST, MOST, -9}) {
            refuses(state, "open: walk " + k, UNKNOWN, x -> x.open(k, true));
            refuses(state, "open: walk " + k + ", false", UNKNOWN, x -> x.open(k, false));
            for (int what = 0; what <= 3; what++) {
                int w = what;
                refuses(state, "ofWalk: walk " + k, UNKNOWN, x -> x.ofWalk(k, w));
            }
        }
    }

    private static void namesThatAreNot(int state) {
        int first = new int[] {0, 2, 5}[state];
        for (int n : new int[] {-1, first, 5, 6, LEAST, MOST, -9}) {
            String not = ": name " + n;
            refuses(state, "moves" + not, UNKNOWN, x -> x.moves(n, 1));
            refuses(state, "board" + not, UNKNOWN, x -> x.board(1, n, 0));
            refuses(state, "unboard" + not, UNKNOWN, x -> x.unboard(1, n));
            refuses(state, "arrow" + not, UNKNOWN, x -> x.arrow(1, n));
            refuses(state, "far" + not, UNKNOWN, x -> x.far(1, n, 0));
            refuses(state, "follow" + not, UNKNOWN, x -> x.follow(1, n, 0));
            refuses(state, "those" + not, UNKNOWN, x -> x.those(n, 0));
            refuses(state, "leads" + not, UNKNOWN, x -> x.leads(0, n));
            refuses(state, "fewest" + not, UNKNOWN, x -> x.fewest(n));
        }
    }

    // ---- OUTSIDE: another number is not as told

    private static void otherNumbers(int state) {
        for (int v : new int[] {-1, 1000, LEAST, MOST, -9}) {
            refuses(state, "detour: " + v, OUTSIDE, x -> x.detour(v));
        }
        for (int how : new int[] {-1, 5, LEAST, MOST, -9}) {
            refuses(state, "ends: " + how, OUTSIDE, x -> x.ends(how));
        }
        for (int what : new int[] {-1, 3, LEAST, MOST, -9}) {
            refuses(state, "mend: " + what, OUTSIDE, x -> x.mend(what));
        }
        for (int what : new int[] {-1, 7, LEAST, MOST, -9}) {
            refuses(state, "many: " + what, OUTSIDE, x -> x.many(what));
        }
        if (state != AS_MANY_AS_CAN_BE) {
            for (int length : new int[] {0, -1, 100, LEAST, MOST}) {
                refuses(state, "walk: length " + length, OUTSIDE, x -> x.walk(0, 4, length));
            }
        }
        if (state != NOTHING) {
            otherNumbersOfWhatIs(state);
        }
    }

    private static void otherNumbersOfWhatIs(int state) {
        for (int what : new int[] {-1, 4, LEAST, MOST, -9}) {
            refuses(state, "ofWalk: what " + what, OUTSIDE, x -> x.ofWalk(0, what));
        }
        for (int what : new int[] {-1, 2, LEAST, MOST, -9}) {
            refuses(state, "far: what " + what, OUTSIDE, x -> x.far(0, 0, what));
        }
        for (int what : new int[] {-1, 4, 5, 6, 7, 8, 9, 51, 52, LEAST, MOST, -9}) {
            refuses(state, "follow: what " + what, OUTSIDE, x -> x.follow(0, 0, what));
        }
        for (int how : new int[] {-1, 5, LEAST, MOST, -9}) {
            refuses(state, "those: how " + how, OUTSIDE, x -> x.those(0, how));
        }
        for (int set : new int[] {-1, 1024, 1025, 2047, 1 << 16, LEAST, MOST, LEAST | 1}) {
            refuses(state, "leads: set " + set, OUTSIDE, x -> x.leads(set, 0));
        }
    }

    // ---- STATE and FULL

    private static void stateAndFull() {
        refuses(NOTHING, "unwalk: there is none", STATE, WaySigns::unwalk);
        refuses(SOME, "walk: there is one", STATE, x -> x.walk(1, 0, 5));
        refuses(SOME, "walk: there is one, told the other way", STATE, x -> x.walk(0, 1, 5));
        refuses(SOME, "walk: there is one, of another length", STATE, x -> x.walk(0, 1, 99));
        refuses(SOME, "walk: there is a closed one", STATE, x -> x.walk(1, 2, 6));
        refuses(SOME, "walk: there is a closed one, told the other way", STATE, x -> x.walk(2, 1, 6));
        refuses(SOME, "walk: there is one, the last", STATE, x -> x.walk(1, 3, 6));
        refuses(SOME, "board: no walk", STATE, x -> x.board(0, 0, 3));
        refuses(SOME, "board: no walk from where there is a board", STATE, x -> x.board(3, 0, 0));
        refuses(SOME, "board: to itself", STATE, x -> x.board(1, 0, 1));
        refuses(SOME, "board: to itself, where the name is", STATE, x -> x.board(3, 0, 3));
        refuses(SOME, "unboard: there is none", STATE, x -> x.unboard(0, 0));
        refuses(SOME, "unboard: there is one of another name", STATE, x -> x.unboard(3, 1));
        refuses(AS_MANY_AS_CAN_BE, "board: no walk", STATE, x -> x.board(0, 4, 5));
        refuses(AS_MANY_AS_CAN_BE, "walk: full", FULL, x -> x.walk(0, 5, 1));
        refuses(AS_MANY_AS_CAN_BE, "walk: full, the longest", FULL, x -> x.walk(9, 1, 99));
        refuses(AS_MANY_AS_CAN_BE, "name: full", FULL, x -> x.name(0));
        refuses(AS_MANY_AS_CAN_BE, "name: full, where one is", FULL, x -> x.name(9));
    }

    // ---- of two that fit the first

    private static void unknownComesFirst(int state) {
        int noWalk = new int[] {0, 3, 14}[state];
        int noName = new int[] {0, 2, 5}[state];
        refuses(state, "walk: UNKNOWN place ahead of OUTSIDE", UNKNOWN, x -> x.walk(10, 1, 0));
        refuses(state, "walk: UNKNOWN other place ahead of OUTSIDE", UNKNOWN, x -> x.walk(1, -1, 100));
        refuses(state, "walk: one place ahead of OUTSIDE", UNKNOWN, x -> x.walk(1, 1, 100));
        refuses(state, "ofWalk: UNKNOWN ahead of OUTSIDE", UNKNOWN, x -> x.ofWalk(noWalk, 4));
        refuses(state, "ofWalk: UNKNOWN ahead of OUTSIDE", UNKNOWN, x -> x.ofWalk(-1, -1));
        refuses(state, "moves: both UNKNOWN", UNKNOWN, x -> x.moves(noName, 10));
        refuses(state, "board: UNKNOWN place ahead of STATE", UNKNOWN, x -> x.board(10, 0, 0));
        refuses(state, "board: UNKNOWN name ahead of STATE", UNKNOWN, x -> x.board(0, noName, 5));
        refuses(state, "board: UNKNOWN name ahead of STATE", UNKNOWN, x -> x.board(0, noName, 0));
        refuses(state, "board: UNKNOWN other place ahead of STATE", UNKNOWN, x -> x.board(0, 0, 10));
        refuses(state, "unboard: UNKNOWN place ahead of STATE", UNKNOWN, x -> x.unboard(-1, 0));
        refuses(state, "unboard: UNKNOWN name ahead of STATE", UNKNOWN, x -> x.unboard(0, noName));
        refuses(state, "far: UNKNOWN place ahead of OUTSIDE", UNKNOWN, x -> x.far(10, 0, 2));
        refuses(state, "far: UNKNOWN name ahead of OUTSIDE", UNKNOWN, x -> x.far(0, noName, -1));
        refuses(state, "follow: UNKNOWN place ahead of OUTSIDE", UNKNOWN, x -> x.follow(-1, 0, 51));
        refuses(state, "follow: UNKNOWN name ahead of OUTSIDE", UNKNOWN, x -> x.follow(0, noName, 9));
        refuses(state, "those: UNKNOWN ahead of OUTSIDE", UNKNOWN, x -> x.those(noName, 5));
        refuses(state, "leads: UNKNOWN ahead of OUTSIDE", UNKNOWN, x -> x.leads(1024, noName));
        refuses(state, "leads: UNKNOWN ahead of OUTSIDE", UNKNOWN, x -> x.leads(-1, -1));
        if (state == AS_MANY_AS_CAN_BE) {
            refuses(state, "name: UNKNOWN ahead of FULL", UNKNOWN, x -> x.name(10));
            refuses(state, "walk: UNKNOWN ahead of FULL", UNKNOWN, x -> x.walk(10, 5, 1));
            refuses(state, "walk: one place ahead of FULL", UNKNOWN, x -> x.walk(5, 5, 1));
        }
    }

    private static void outsideAheadOfStateAndFull() {
        refuses(SOME, "walk: OUTSIDE ahead of STATE", OUTSIDE, x -> x.walk(0, 1, 0));
        refuses(SOME, "walk: OUTSIDE ahead of STATE", OUTSIDE, x -> x.walk(2, 1, 100));
        refuses(AS_MANY_AS_CAN_BE, "walk: OUTSIDE ahead of FULL", OUTSIDE, x -> x.walk(0, 5, 100));
        refuses(AS_MANY_AS_CAN_BE, "walk: OUTSIDE ahead of STATE and FULL", OUTSIDE, x -> x.walk(0, 1, 0));
        refuses(AS_MANY_AS_CAN_BE, "walk: STATE ahead of FULL", STATE, x -> x.walk(0, 1, 1));
        refuses(AS_MANY_AS_CAN_BE, "walk: a closed one: STATE ahead of FULL", STATE, x -> x.walk(5, 4, 1));
    }

    /** NONE is no refusal: a number that is not as told is answered ahead of it. */
    private static void outsideAheadOfNone() {
        refuses(NOTHING, "mend: OUTSIDE ahead of NONE", OUTSIDE, x -> x.mend(3));
        refuses(SOME, "far: OUTSIDE where one does not come", OUTSIDE, x -> x.far(9, 0, 2));
        refuses(SOME, "far: OUTSIDE where the name is", OUTSIDE, x -> x.far(3, 0, 2));
        refuses(SOME, "follow: OUTSIDE where the way is not so long", OUTSIDE, x -> x.follow(3, 0, 51));
    }

    // ---- asking

    /** A call that only tells leaves all as it is, be it one that tries boards. */
    private static void askingChangesNothing(int state) {
        WaySigns x = made(state);
        for (int i = 0; i < 3; i++) {
            x.mend(i);
            x.fewest(i);
            x.posts();
            x.leads(new int[] {0, 2, 1023}[i], i);
            x.idle(i);
            x.ends(i);
            x.those(i, i);
            x.far(i, i, i % 2);
            x.from(i);
            x.arrow(i, i);
            x.follow(i, i, i);
            x.ofWalk(i, i);
            x.many(i);
        }
        if (!allThatIsSeen(x).equals(allThatIsSeen(made(state)))) {
            tell("asking, " + STATES[state] + ", changed something");
        }
    }

    /** Each refusal that a line of the document names has been tried. */
    private static void eachHasRefused() {
        String[] due = {"walk -1", "walk -2", "walk -3", "walk -4", "unwalk -3", "open -1", "ofWalk -1", "ofWalk -2",
            "name -1", "name -4", "moves -1", "entrance -1", "detour -2", "board -1", "board -3", "unboard -1",
            "unboard -3", "arrow -1", "far -1", "far -2", "from -1", "follow -1", "follow -2", "ends -2", "those -1",
            "those -2", "idle -1", "mend -2", "leads -1", "leads -2", "fewest -1", "many -2"};
        if (!REFUSED.equals(new TreeSet<>(Arrays.asList(due)))) {
            tell("refusals tried: " + REFUSED);
        }
    }
}
