/** Promises 1 to 6, sentence by sentence, at their edges. The comments are the document's words. */
public final class FieldEdgesTest extends Checks {

    public static void main(String[] args) throws Exception {
        runAll(FieldEdgesTest.class);
    }

    // ---- promise 1

    /** "Creates a field without places." */
    static void promise1WithoutPlaces() {
        RankRings rings = new RankRings();
        due("places", rings.count(0), 0);
        due("ways", rings.count(1), 0);
        due("won by 0", rings.count(2), 0);
        due("won by 1", rings.count(3), 0);
        due("without ways", rings.count(4), 0);
        due("greatest rank", rings.count(5), NOT_FOUND);
        for (int place = -1; place <= 12; place++) {
            for (int what = 0; what <= 5; what++) {
                due("placeOf " + place + " " + what, rings.placeOf(place, what), INVALID);
            }
        }
    }

    /** What is initially empty: history, text ("initially empty"), snapshot. */
    static void promise1NothingBesides() {
        RankRings rings = new RankRings();
        due("states", rings.count(6), 0);
        due("length", rings.count(7), 0);
        due("snapshot", rings.count(8), 0);
        due("undo", rings.undo(), NOT_POSSIBLE);
        due("restore", rings.restore(), NOT_POSSIBLE);
        due("fault's place", rings.fault(0), 0);
        due("fault's reason", rings.fault(1), 1);
        due("read", rings.read(), NOT_POSSIBLE);
        due("clearText", rings.clearText(), 0);
    }

    /** Each call on a new object that needs a place, a state, a snapshot or a text. */
    static void promise1CallsOnNothing() {
        for (int is = 0; is <= 1; is++) {
            final int isWay = is;
            leavesAll("way", RankRings::new, rings -> rings.way(0, 0, isWay), INVALID);
            leavesAll("pulled", RankRings::new, rings -> rings.pulled(isWay, 0), 0);
            leavesAll("pulled, a place", RankRings::new, rings -> rings.pulled(isWay, 1), INVALID);
            leavesAll("steps", RankRings::new, rings -> rings.steps(isWay, 0, 0), INVALID);
            leavesAll("trap", RankRings::new, rings -> rings.trap(isWay, 0), 1);
            leavesAll("trap, a place", RankRings::new, rings -> rings.trap(isWay, 1), INVALID);
            leavesAll("greatestTrap", RankRings::new, rings -> rings.greatestTrap(isWay, 0), 0);
            leavesAll("greatestTrap, a place", RankRings::new, rings -> rings.greatestTrap(isWay, 1), INVALID);
            leavesAll("proves", RankRings::new, rings -> rings.proves(isWay), 1);
            leavesAll("littleChange", RankRings::new, rings -> rings.littleChange(0, isWay), INVALID);
        }
        leavesAll("own", RankRings::new, rings -> rings.own(0, 0), INVALID);
        leavesAll("rank", RankRings::new, rings -> rings.rank(0, 0), INVALID);
        leavesAll("drop", RankRings::new, rings -> rings.drop(0), INVALID);
        leavesAll("play", RankRings::new, rings -> rings.play(0, 0), INVALID);
        leavesAll("only", RankRings::new, rings -> rings.only(0, 0), INVALID);
        leavesAll("undo", RankRings::new, RankRings::undo, NOT_POSSIBLE);
        leavesAll("restore", RankRings::new, RankRings::restore, NOT_POSSIBLE);
        leavesAll("read", RankRings::new, RankRings::read, NOT_POSSIBLE);
    }

    /** Two objects have nothing in common. */
    static void promise1ObjectsOfTheirOwn() {
        RankRings one = new RankRings();
        RankRings other = new RankRings();
        one.add(1, 5);
        one.way(0, 0, 1);
        one.keep();
        one.type('e');
        due("places", other.count(0), 0);
        due("states", other.count(6), 0);
        due("length", other.count(7), 0);
        due("snapshot", other.count(8), 0);
        other.add(0, 0);
        due("owner", one.placeOf(0, 0), 1);
        due("winner of one", one.placeOf(0, 4), 1);
        due("winner of the other", other.placeOf(0, 4), 1);
        due("ways of the other", other.placeOf(0, 2), 0);
    }

    // ---- promise 2

    /** "There are at most 12 places, numbered from 0." "LIMIT_REACHED if there are 12." */
    static void promise2Twelve() {
        RankRings rings = new RankRings();
        for (int place = 0; place < 12; place++) {
            due("places before", rings.count(0), place);
            due("add", rings.add(place % 2, place % 6), place);
        }
        due("places", rings.count(0), 12);
        leavesAll("a thirteenth", () -> places(12), full -> full.add(0, 0), LIMIT);
        leavesAll("a thirteenth", Checks::busyWithTwelve, full -> full.add(1, 5), LIMIT);
        leavesAll("none at 11 is refused, but of a wrong owner", () -> places(11), some -> some.add(2, 0), INVALID);
    }

    /** The limit is for the places that there are, in whatever way they came and went. */
    static void promise2TwelveThatCameOtherwise() {
        RankRings dropped = places(12);
        dropped.drop(5);
        due("there is room again", dropped.add(1, 3), 11);
        due("and none", dropped.add(1, 3), LIMIT);
        dropped.undo();
        due("there is room again", dropped.add(0, 3), 11);
        RankRings read = field("e0;e0;e0;e0;e0;e0;e0;e0;e0;e0;e0;e0");
        due("after read of twelve", read.add(0, 0), LIMIT);
        read.keep();
        read.drop(0);
        read.restore();
        due("after restore of twelve", read.add(0, 0), LIMIT);
        RankRings eleven = field("e0;e0;e0;e0;e0;e0;e0;e0;e0;e0;e0");
        due("after read of eleven", eleven.add(0, 0), 11);
    }

    /** "owner: 0 or 1" */
    static void promise2Owner() {
        due("owner 0", places(0).add(0, 3), 0);
        due("owner 1", places(0).add(1, 3), 0);
        leavesAll("owner -1", Checks::busy, rings -> rings.add(-1, 3), INVALID);
        leavesAll("owner 2", Checks::busy, rings -> rings.add(2, 3), INVALID);
        for (int far : FAR) {
            due("owner " + far, places(1).add(far, 0), INVALID);
        }
    }

    /** "rank: 0 to 5" */
    static void promise2Rank() {
        for (int rank = 0; rank <= 5; rank++) {
            RankRings rings = new RankRings();
            due("rank " + rank, rings.add(rank % 2, rank), 0);
            due("rank", rings.placeOf(0, 1), rank);
            due("owner", rings.placeOf(0, 0), rank % 2);
        }
        leavesAll("rank -1", Checks::busy, rings -> rings.add(0, -1), INVALID);
        leavesAll("rank 6", Checks::busy, rings -> rings.add(0, 6), INVALID);
        for (int far : FAR) {
            due("rank " + far, places(1).add(0, far), INVALID);
            due("owner and rank " + far, places(1).add(far, far), INVALID);
        }
    }

    /** "INVALID_ARGUMENT is returned rather than NOT_POSSIBLE ... rather than LIMIT_REACHED" */
    static void promise2InvalidRatherThanLimit() {
        leavesAll("owner 2 at twelve", Checks::busyWithTwelve, rings -> rings.add(2, 0), INVALID);
        leavesAll("owner -1 at twelve", Checks::busyWithTwelve, rings -> rings.add(-1, 0), INVALID);
        leavesAll("rank 6 at twelve", Checks::busyWithTwelve, rings -> rings.add(0, 6), INVALID);
        leavesAll("rank -1 at twelve", Checks::busyWithTwelve, rings -> rings.add(0, -1), INVALID);
    }

    /** "Adds a place, without ways." */
    static void promise2WithoutWays() {
        RankRings rings = field("e0:0,1;o1:0,1");
        due("add", rings.add(1, 4), 2);
        due("its ways", rings.placeOf(2, 2), 0);
        due("ways to it", rings.placeOf(2, 3), 0);
        same("the others stay", told(rings), "e0:0,1;o1:0,1;o4");
        due("its owner loses", rings.placeOf(2, 4), 0);
        rings.drop(1);
        rings.drop(1);
        due("asked before", rings.placeOf(0, 4), 0);
        rings.add(0, 2);
        due("its owner loses", rings.placeOf(1, 4), 1);
        due("no choice", rings.placeOf(1, 5), NOT_FOUND);
        same("nothing is left of a place with this number", told(rings), "e0:0;e2");
        rings.undo();
        rings.undo();
        rings.undo();
        rings.add(0, 5);
        same("nothing is left of an undone place", told(rings), "e0:0,1;o1:0,1;o4;e5");
    }

    // ---- promise 3

    /** "Returns its owner so far", be the owner another one or the same. */
    static void promise3OwnerSoFar() {
        RankRings rings = field("e0:0,1;o1");
        due("0 to 1", rings.own(0, 1), 0);
        due("1 to 1", rings.own(0, 1), 1);
        due("1 to 0", rings.own(0, 0), 1);
        due("0 to 0", rings.own(0, 0), 0);
        same("nothing else is otherwise", told(rings), "e0:0,1;o1");
        due("the last place", rings.own(1, 0), 1);
        same("nothing else is otherwise", told(rings), "e0:0,1;e1");
    }

    /** "place: number of the place": from 0 to the one before the number of places. */
    static void promise3Place() {
        due("the first", busy().own(0, 1), 0);
        due("the last", busy().own(4, 1), 1);
        leavesAll("place -1", Checks::busy, rings -> rings.own(-1, 0), INVALID);
        leavesAll("place 5", Checks::busy, rings -> rings.own(5, 0), INVALID);
        due("place 11 of twelve", busyWithTwelve().own(11, 0), 1);
        leavesAll("place 12 of twelve", Checks::busyWithTwelve, rings -> rings.own(12, 0), INVALID);
        for (int far : FAR) {
            due("place " + far, busy().own(far, 0), INVALID);
        }
        RankRings dropped = places(2);
        dropped.drop(0);
        due("a place that was", dropped.own(1, 0), INVALID);
    }

    /** "owner: 0 or 1" */
    static void promise3Owner() {
        leavesAll("owner -1", Checks::busy, rings -> rings.own(0, -1), INVALID);
        leavesAll("owner 2", Checks::busy, rings -> rings.own(0, 2), INVALID);
        leavesAll("place and owner", Checks::busy, rings -> rings.own(5, 2), INVALID);
        for (int far : FAR) {
            due("owner " + far, busy().own(0, far), INVALID);
        }
    }

    /** "its owner loses": with the owner the winner becomes another one. */
    static void promise3WinnerChanges() {
        RankRings rings = field("e0:1;e0");
        due("won by 1", rings.count(3), 3);
        rings.own(1, 1);
        due("won by 0", rings.count(2), 3);
        due("won by 1", rings.count(3), 0);
        rings.own(1, 0);
        due("won by 0", rings.count(2), 0);
        RankRings choice = field("e1:0,1;e2:1");
        due("0 goes on", choice.placeOf(0, 5), 1);
        choice.own(0, 1);
        due("1 stays", choice.placeOf(0, 5), 0);
    }

    // ---- promise 4

    /** "Returns its rank so far", be the rank another one or the same. */
    static void promise4RankSoFar() {
        RankRings rings = field("e0:0,1;o1");
        due("0 to 5", rings.rank(0, 5), 0);
        due("5 to 5", rings.rank(0, 5), 5);
        due("5 to 0", rings.rank(0, 0), 5);
        due("0 to 0", rings.rank(0, 0), 0);
        same("nothing else is otherwise", told(rings), "e0:0,1;o1");
        due("the last place", rings.rank(1, 4), 1);
        same("nothing else is otherwise", told(rings), "e0:0,1;o4");
    }

    /** "place: number of the place" */
    static void promise4Place() {
        due("the first", busy().rank(0, 0), 3);
        due("the last", busy().rank(4, 0), 3);
        leavesAll("place -1", Checks::busy, rings -> rings.rank(-1, 0), INVALID);
        leavesAll("place 5", Checks::busy, rings -> rings.rank(5, 0), INVALID);
        due("place 11 of twelve", busyWithTwelve().rank(11, 0), 5);
        leavesAll("place 12 of twelve", Checks::busyWithTwelve, rings -> rings.rank(12, 0), INVALID);
        for (int far : FAR) {
            due("place " + far, busy().rank(far, 0), INVALID);
        }
        RankRings dropped = places(2);
        dropped.drop(0);
        due("a place that was", dropped.rank(1, 0), INVALID);
    }

    /** "rank: 0 to 5" */
    static void promise4Rank() {
        RankRings rings = field("e3:0");
        int before = 3;
        for (int rank = 0; rank <= 5; rank++) {
            due("rank " + rank, rings.rank(0, rank), before);
            due("is its rank", rings.placeOf(0, 1), rank);
            due("wins", rings.placeOf(0, 4), rank % 2);
            before = rank;
        }
        leavesAll("rank -1", Checks::busy, busy -> busy.rank(0, -1), INVALID);
        leavesAll("rank 6", Checks::busy, busy -> busy.rank(0, 6), INVALID);
        leavesAll("place and rank", Checks::busy, busy -> busy.rank(5, 6), INVALID);
        for (int far : FAR) {
            due("rank " + far, busy().rank(0, far), INVALID);
        }
    }

    // ---- promise 5

    /** "Returns how many ways from has then": from none to all twelve, and back. */
    static void promise5HowMany() {
        RankRings rings = places(12);
        for (int to = 0; to < 12; to++) {
            due("a way more", rings.way(11, to, 1), to + 1);
        }
        due("ways", rings.placeOf(11, 2), 4095);
        due("of the other places there are none", rings.count(1), 12);
        for (int to = 11; to >= 0; to--) {
            due("a way less", rings.way(11, to, 0), to);
        }
        due("ways", rings.placeOf(11, 2), 0);
        due("those of from, not those to it", field("e0;e0:0;e0:0").way(0, 1, 1), 1);
    }

    /** "ways to places (perhaps to itself), each place at most once" */
    static void promise5ToItselfAndOnce() {
        RankRings rings = places(3);
        due("to itself", rings.way(1, 1, 1), 1);
        due("to another", rings.way(1, 2, 1), 2);
        same("just these", told(rings), "e0;o1:1,2;e2");
        leavesAll("to itself once more", () -> ringOf3(), three -> three.way(0, 0, 1), NOT_POSSIBLE);
        leavesAll("to another once more", () -> ringOf3(), three -> three.way(0, 1, 1), NOT_POSSIBLE);
        due("back is another way", ringOf3().way(1, 0, 1), 2);
    }

    private static RankRings ringOf3() {
        return field("e0:0,1;o1:2;e2:0");
    }

    /** "NOT_POSSIBLE if it is so already" */
    static void promise5AlreadySo() {
        leavesAll("there is one", Checks::busy, rings -> rings.way(1, 0, 1), NOT_POSSIBLE);
        leavesAll("there is none", Checks::busy, rings -> rings.way(1, 2, 0), NOT_POSSIBLE);
        leavesAll("there is one", Checks::busyWithTwelve, rings -> rings.way(11, 11, 1), NOT_POSSIBLE);
        leavesAll("there is none", Checks::busyWithTwelve, rings -> rings.way(10, 10, 0), NOT_POSSIBLE);
        leavesAll("there are none at all", () -> places(1), rings -> rings.way(0, 0, 0), NOT_POSSIBLE);
        RankRings rings = places(1);
        due("made", rings.way(0, 0, 1), 1);
        due("made already", rings.way(0, 0, 1), NOT_POSSIBLE);
        due("taken away", rings.way(0, 0, 0), 0);
        due("taken away already", rings.way(0, 0, 0), NOT_POSSIBLE);
        due("made again", rings.way(0, 0, 1), 1);
        rings.undo();
        due("undone, so not made", rings.way(0, 0, 0), NOT_POSSIBLE);
    }

    /** "from: number of a place", "to: number of a place" */
    static void promise5FromAndTo() {
        leavesAll("from -1", Checks::busy, rings -> rings.way(-1, 0, 1), INVALID);
        leavesAll("from 5", Checks::busy, rings -> rings.way(5, 0, 1), INVALID);
        leavesAll("to -1", Checks::busy, rings -> rings.way(0, -1, 1), INVALID);
        leavesAll("to 5", Checks::busy, rings -> rings.way(0, 5, 1), INVALID);
        due("from the last", busy().way(4, 0, 1), 1);
        due("to the last", busy().way(0, 4, 1), 2);
        due("from the first of twelve to the last", busyWithTwelve().way(0, 11, 1), 2);
        leavesAll("from 12 of twelve", Checks::busyWithTwelve, rings -> rings.way(12, 0, 1), INVALID);
        leavesAll("to 12 of twelve", Checks::busyWithTwelve, rings -> rings.way(0, 12, 1), INVALID);
        for (int far : FAR) {
            due("from " + far, busy().way(far, 0, 1), INVALID);
            due("to " + far, busy().way(0, far, 1), INVALID);
        }
    }

    /** "is: 1: there is one; 0: there is none" */
    static void promise5Is() {
        leavesAll("is -1", Checks::busy, rings -> rings.way(1, 2, -1), INVALID);
        leavesAll("is 2", Checks::busy, rings -> rings.way(1, 2, 2), INVALID);
        for (int far : FAR) {
            due("is " + far + " where there is none", busy().way(1, 2, far), INVALID);
            due("is " + far + " where there is one", busy().way(1, 0, far), INVALID);
        }
    }

    /** "INVALID_ARGUMENT is returned rather than NOT_POSSIBLE" */
    static void promise5InvalidRatherThanNotPossible() {
        leavesAll("none to no place", Checks::busy, rings -> rings.way(0, 5, 0), INVALID);
        leavesAll("none from no place", Checks::busy, rings -> rings.way(5, 0, 0), INVALID);
        leavesAll("more than one", Checks::busy, rings -> rings.way(1, 0, 2), INVALID);
        leavesAll("less than none", Checks::busy, rings -> rings.way(1, 2, -1), INVALID);
    }

    // ---- promise 6

    /** "Drops a place, with all ways from and to it; those behind it have numbers that are less by 1." */
    static void promise6FirstMiddleLast() {
        String all = "e0:0,1,2,3;o1:0,1,2,3;e2:0,1,2,3;o3:0,1,2,3";
        String[] left = {"o1:0,1,2;e2:0,1,2;o3:0,1,2", "e0:0,1,2;e2:0,1,2;o3:0,1,2", "e0:0,1,2;o1:0,1,2;o3:0,1,2",
            "e0:0,1,2;o1:0,1,2;e2:0,1,2"};
        String ring = "e0:1;o1:2;e2:3;o3:0";
        String[] open = {"o1:1;e2:2;o3", "e0;e2:2;o3:0", "e0:1;o1;o3:0", "e0:1;o1:2;e2"};
        String selves = "e0:0;o1:1;e2:2;o3:3";
        String[] selvesLeft = {"o1:0;e2:1;o3:2", "e0:0;e2:1;o3:2", "e0:0;o1:1;o3:2", "e0:0;o1:1;e2:2"};
        for (int place = 0; place < 4; place++) {
            dropped(all, place, left[place]);
            dropped(ring, place, open[place]);
            dropped(selves, place, selvesLeft[place]);
        }
    }

    private static void dropped(String text, int place, String due) {
        RankRings rings = field(text);
        due("drop " + place + " of " + text, rings.drop(place), 3);
        same("drop " + place + " of " + text, told(rings), due);
        due("places", rings.count(0), 3);
        due("the last number is gone", rings.placeOf(3, 0), INVALID);
        rings.undo();
        same("undone", told(rings), text);
    }

    /** "Returns how many are left": from 12 to 11, from 1 to 0. */
    static void promise6HowManyAreLeft() {
        RankRings rings = places(12);
        rings.way(11, 11, 1);
        rings.way(0, 11, 1);
        for (int left = 11; left >= 0; left--) {
            due("left", rings.drop(0), left);
            due("places", rings.count(0), left);
            due("the last place's ways", left > 0 ? rings.placeOf(left - 1, 2) : 0, left > 0 ? 1 << left - 1 : 0);
        }
        due("greatest rank of none", rings.count(5), NOT_FOUND);
        leavesAll("drop of none", () -> noneLeft(), none -> none.drop(0), INVALID);
    }

    private static RankRings noneLeft() {
        RankRings rings = field("e0:0");
        rings.drop(0);
        return rings;
    }

    /** "place: number of the place" */
    static void promise6Place() {
        due("the last", busy().drop(4), 4);
        leavesAll("place -1", Checks::busy, rings -> rings.drop(-1), INVALID);
        leavesAll("place 5", Checks::busy, rings -> rings.drop(5), INVALID);
        due("place 11 of twelve", busyWithTwelve().drop(11), 11);
        leavesAll("place 12 of twelve", Checks::busyWithTwelve, rings -> rings.drop(12), INVALID);
        for (int far : FAR) {
            due("place " + far, busy().drop(far), INVALID);
        }
    }

    /** Who wins where is found anew: a place that led to the dropped one may be an end. */
    static void promise6WinnersAfterwards() {
        RankRings rings = field("e2:1;e2:0;o1:0");
        due("won by 0", rings.count(2), 7);
        rings.drop(1);
        due("won by 0", rings.count(2), 0);
        due("won by 1", rings.count(3), 3);
        due("without ways", rings.count(4), 1);
        due("play", rings.play(1, 0), 2);
        rings.undo();
        due("won by 0", rings.count(2), 7);
        due("play", rings.play(2, 0), 3);
    }
}
