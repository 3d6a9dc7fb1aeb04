/** Promises 13 to 16, sentence by sentence, at their edges. The comments are the document's words. */
public final class PlayEdgesTest extends Checks {

    public static void main(String[] args) throws Exception {
        runAll(PlayEdgesTest.class);
    }

    // ---- promise 13

    /** Places that it comes to, the first that comes again, the greatest rank of the ring, the winner. */
    private static void play(String text, int place, int... due) {
        RankRings rings = field(text);
        for (int what = 0; what <= 3; what++) {
            due(text + " play from " + place + ", " + what, rings.play(place, what), due[what]);
        }
        due(text + " winner from " + place, rings.placeOf(place, 4), due[3]);
    }

    /** "before it ... ends (the first and the last one count)", "NOT_FOUND for 1 and 2 if it ends" */
    static void promise13Ends() {
        play("e5", 0, 1, NOT_FOUND, NOT_FOUND, 1);
        play("o5", 0, 1, NOT_FOUND, NOT_FOUND, 0);
        play("e5:1;o4", 0, 2, NOT_FOUND, NOT_FOUND, 0);
        play("o5:1;e4", 0, 2, NOT_FOUND, NOT_FOUND, 1);
        play("e5:1;o4:2;e3", 0, 3, NOT_FOUND, NOT_FOUND, 1);
        String twelve = "e0;e1:0;o2:1;e3:2;o4:3;e5:4;o0:5;e1:6;o2:7;e3:8;o4:9;e5:10";
        play(twelve, 11, 12, NOT_FOUND, NOT_FOUND, 1);
        play(twelve, 10, 11, NOT_FOUND, NOT_FOUND, 1);
        play(twelve, 0, 1, NOT_FOUND, NOT_FOUND, 1);
    }

    /** "how many places it comes to before it comes to one again", "the first place that comes again" */
    static void promise13ComesAgain() {
        play("e0:0", 0, 1, 0, 0, 0);
        play("o1:0", 0, 1, 0, 1, 1);
        play("e0:1;o1:0", 0, 2, 0, 1, 1);
        play("e0:1;o1:0", 1, 2, 1, 1, 1);
        play("e0:1;o1:1", 0, 2, 1, 1, 1);
        play("e5:1;e5:2;e2:3;e1:2", 0, 4, 2, 2, 0);
        play("e5:1;e5:2;e2:3;e1:2", 1, 3, 2, 2, 0);
        play("e5:1;e5:2;e2:3;e1:2", 2, 2, 2, 2, 0);
        play("e5:1;e5:2;e2:3;e1:2", 3, 2, 3, 2, 0);
        String twelve = "e0:11;e1:0;o2:1;e3:2;o4:3;e3:4;o0:5;e1:6;o2:7;e3:8;o2:9;e1:10";
        for (int place = 0; place < 12; place++) {
            play(twelve, place, 12, place, 4, 0);
        }
        String longWay = "o0:0;e1:0;o2:1;e3:2;o4:3;e5:4;o0:5;e1:6;o2:7;e3:8;o4:9;e5:10";
        play(longWay, 11, 12, 0, 0, 0);
        play(longWay, 1, 2, 0, 0, 0);
    }

    /** "the greatest rank that comes again and again": each rank, at each place of the ring, not ahead of it. */
    static void promise13GreatestRank() {
        for (int rank = 0; rank <= 5; rank++) {
            play("e5:1;o" + rank + ":1", 0, 2, 1, rank, rank % 2);
            play("e" + rank + ":1;o0:2;e0:0", 0, 3, 0, rank, rank % 2);
            play("e0:1;o" + rank + ":2;e0:0", 0, 3, 0, rank, rank % 2);
            play("e0:1;o0:2;e" + rank + ":0", 0, 3, 0, rank, rank % 2);
        }
    }

    /** "the play that follows all choices": the winner's are told by the winner, the loser's are the lowest ways. */
    static void promise13FollowsChoices() {
        play("e1:0,1;e2:0", 0, 2, 0, 2, 0);
        play("o5:0,1;e2:0", 0, 1, 0, 5, 1);
        play("e3:1,2;o2:0,1;o3:0", 0, 2, 0, 3, 1);
        play("o0:1,2;e2:1;o4", 0, 2, 1, 2, 0);
        play("o0:1,2;o4;e2:2", 0, 2, NOT_FOUND, NOT_FOUND, 0);
        play("e1:1,2;e1:0,2;o1", 0, 3, NOT_FOUND, NOT_FOUND, 0);
        play("e1:1,2;e1:0,2;o1", 1, 2, NOT_FOUND, NOT_FOUND, 0);
    }

    /** "what: 0 ... 3" */
    static void promise13What() {
        leavesAll("what -1", Checks::busy, rings -> rings.play(0, -1), INVALID);
        leavesAll("what 4", Checks::busy, rings -> rings.play(0, 4), INVALID);
        for (int far : FAR) {
            due("what " + far, busy().play(0, far), INVALID);
        }
    }

    /** "place: number of the place at which it begins" */
    static void promise13Place() {
        RankRings rings = busyWithTwelve();
        for (int what = 0; what <= 3; what++) {
            final int asked = what;
            due("place 0", rings.play(0, what) == INVALID ? 1 : 0, 0);
            due("place 11", rings.play(11, what) == INVALID ? 1 : 0, 0);
            due("place 12", rings.play(12, what), INVALID);
            leavesAll("place -1", Checks::busy, busy -> busy.play(-1, asked), INVALID);
            leavesAll("place 5", Checks::busy, busy -> busy.play(5, asked), INVALID);
            for (int far : FAR) {
                due("place " + far, rings.play(far, what), INVALID);
            }
        }
    }

    /** "INVALID_ARGUMENT is returned rather than ... NOT_FOUND" */
    static void promise13InvalidRatherThanNotFound() {
        leavesAll("1 of an end", () -> field("e0"), rings -> rings.play(0, 1), NOT_FOUND);
        leavesAll("2 of an end", () -> field("e0"), rings -> rings.play(0, 2), NOT_FOUND);
        due("4 of an end", field("e0").play(0, 4), INVALID);
        due("-1 of an end", field("e0").play(0, -1), INVALID);
        due("1 of no place", field("e0").play(1, 1), INVALID);
    }

    /** The play is that of the field as it is now. */
    static void promise13AfterChanges() {
        RankRings rings = field("e1:1;e2:0");
        due("winner", rings.play(0, 3), 0);
        rings.rank(1, 1);
        due("after rank", rings.play(0, 3), 1);
        due("after rank", rings.play(0, 2), 1);
        rings.way(1, 0, 0);
        due("after way", rings.play(0, 1), NOT_FOUND);
        rings.own(1, 1);
        due("after own", rings.play(0, 3), 0);
        rings.drop(0);
        due("after drop", rings.play(0, 0), 1);
        rings.undo();
        due("after undo", rings.play(0, 0), 2);
    }

    // ---- promise 14

    /** "Returns 1 or 0": choices are told so that they prove; where a player wins nothing there is nothing to prove. */
    static void promise14Proves() {
        String[] texts = {"e0", "o0", "e0:0", "e1:0", "e1:0,1;e2:0", "e1:1,2;e1:0,2;o1", "o0:1,2;o0:0,2;e1",
            "e1:1,4;e1:0,4;o0:3,5;o0:2,5;o1;e0", "e1:1,2;o2:0,3;e0:0;e3:0", "e5:0,1;e5:0,1", "o4:0,1;o4:0,1",
            "e0:1,2;o4:2,0;o0:0,1;e3:0,3", "o0:1,2;e1:0,2;o2:0,1,3;e5:3,2"};
        for (String text : texts) {
            due(text + " by 0", field(text).proves(0), 1);
            due(text + " by 1", field(text).proves(1), 1);
        }
        due("without places", new RankRings().proves(0), 1);
        due("without places", new RankRings().proves(1), 1);
        due("of twelve", busyWithTwelve().proves(0), 1);
        due("of twelve", busyWithTwelve().proves(1), 1);
    }

    /** "player: 0 or 1" */
    static void promise14Player() {
        leavesAll("player 0", Checks::busy, rings -> rings.proves(0), 1);
        leavesAll("player 1", Checks::busy, rings -> rings.proves(1), 1);
        leavesAll("player -1", Checks::busy, rings -> rings.proves(-1), INVALID);
        leavesAll("player 2", Checks::busy, rings -> rings.proves(2), INVALID);
        due("player 2 without places", new RankRings().proves(2), INVALID);
        for (int far : FAR) {
            due("player " + far, busy().proves(far), INVALID);
        }
    }

    // ---- promise 15

    /** "if it was the only way of its place", "the set of places from which the player 0 would win" */
    static void promise15OnlyWay() {
        RankRings rings = field("e1:0,1,2;o2:0,2;o5;e0:0");
        due("as it is", rings.count(2), 15);
        due("0 to itself", rings.only(0, 0), 4);
        due("0 to 1", rings.only(0, 1), 15);
        due("0 to 2", rings.only(0, 2), 15);
        due("1 to 0", rings.only(1, 0), 15);
        due("1 to 2", rings.only(1, 2), 15);
        due("the only way there is", rings.only(3, 0), 15);
        same("nothing has changed", told(rings), "e1:0,1,2;o2:0,2;o5;e0:0");
        due("for the other player too", field("o0:0,1;e1").only(0, 0), 1);
        due("for the other player too", field("o0:0,1;e1").only(0, 1), 0);
        due("an end stays an end", field("e0:1;e0").only(0, 1), 0);
    }

    /** Each of a place's twelve ways alone. */
    static void promise15TwelveWays() {
        RankRings rings = places(12);
        for (int to = 0; to < 12; to++) {
            rings.way(11, to, 1);
        }
        // The places of player 1 (the odd ones) are ends that the player 0 wins.
        int ends = 0xAAA & 2047;
        for (int to = 0; to < 11; to++) {
            due("11 to " + to, rings.only(11, to), to % 2 == 1 ? ends + 2048 : ends);
        }
        due("11 to itself", rings.only(11, 11), ends);
    }

    /** "NOT_POSSIBLE if there is no such way" */
    static void promise15NoSuchWay() {
        leavesAll("no way there", Checks::busy, rings -> rings.only(0, 1), NOT_POSSIBLE);
        leavesAll("but back", Checks::busy, rings -> rings.only(1, 0), busy().count(2));
        leavesAll("an end", Checks::busy, rings -> rings.only(4, 4), NOT_POSSIBLE);
        leavesAll("to the last of twelve", Checks::busyWithTwelve, rings -> rings.only(11, 10), NOT_POSSIBLE);
        RankRings rings = field("e0;e0");
        rings.way(0, 1, 1);
        due("made", rings.only(0, 1), 0);
        rings.way(0, 1, 0);
        due("taken away", rings.only(0, 1), NOT_POSSIBLE);
    }

    /** "from: number of a place", "to: number of a place to which it has a way" */
    static void promise15FromAndTo() {
        leavesAll("from -1", Checks::busy, rings -> rings.only(-1, 0), INVALID);
        leavesAll("from 5", Checks::busy, rings -> rings.only(5, 0), INVALID);
        leavesAll("to -1", Checks::busy, rings -> rings.only(0, -1), INVALID);
        leavesAll("to 5", Checks::busy, rings -> rings.only(0, 5), INVALID);
        due("from the last to the last of twelve", busyWithTwelve().only(11, 11) < 0 ? 1 : 0, 0);
        due("from 12 of twelve", busyWithTwelve().only(12, 0), INVALID);
        due("to 12 of twelve", busyWithTwelve().only(0, 12), INVALID);
        for (int far : FAR) {
            due("from " + far, busy().only(far, 0), INVALID);
            due("to " + far, busy().only(0, far), INVALID);
        }
    }

    /** "INVALID_ARGUMENT is returned rather than NOT_POSSIBLE" */
    static void promise15InvalidRatherThanNotPossible() {
        due("to no place, to which there is no way", field("e0").only(0, 1), INVALID);
        due("from no place", field("e0").only(1, 0), INVALID);
        due("from and to no place", field("e0").only(1, 1), INVALID);
        due("from and to a place", field("e0").only(0, 0), NOT_POSSIBLE);
    }

    /** Nothing of it is left in what is asked next. */
    static void promise15NothingIsLeft() {
        RankRings rings = field("e1:0,1;e2:0,1");
        due("0 to itself", rings.only(0, 0), 2);
        due("won by 0", rings.count(2), 3);
        due("choice", rings.placeOf(0, 5), 1);
        due("1 to 0", rings.only(1, 0), 3);
        due("choice", rings.placeOf(1, 5), 0);
        due("little change", rings.littleChange(0, 1), 1);
        due("play", rings.play(0, 0), 2);
        leavesAll("only", Checks::busyWithTwelve, twelve -> twelve.only(11, 11), busyWithTwelve().only(11, 11));
    }

    // ---- promise 16

    private static void change(String text, int place, int changed, int rank) {
        RankRings rings = field(text);
        due(text + " little change for " + place + ": place", rings.littleChange(place, 0), changed);
        due(text + " little change for " + place + ": rank", rings.littleChange(place, 1), rank);
        same(text + " stays", told(rings), text);
        if (changed >= 0) {
            int winner = rings.placeOf(place, 4);
            rings.rank(changed, rank);
            due(text + " another one wins", rings.placeOf(place, 4), 1 - winner);
        }
    }

    /** "the least difference of both ranks": each difference from 1 to 5 is the least one somewhere. */
    static void promise16LeastDifference() {
        change("o0:0", 0, 0, 1);
        change("e5:0", 0, 0, 4);
        change("e2:2;e2:2;e1:0,1", 0, 2, 3);
        change("e3:1,2;o4:0;o4:0", 1, 0, 5);
        change("e0:0,1;o2:0", 0, 0, 3);
        change("o3:1;o1:0,1", 0, 1, 4);
        change("e2:2;e4:2;e1:0,1", 0, 2, 5);
        change("o3:1;o0:0,2;o1:1", 1, 1, 4);
        change("o4:1;e0:0,1", 1, 1, 5);
        change("e0:0,1;e4:0", 1, 0, 5);
    }

    /** A less difference at a higher place is less than a greater one at a lower place. */
    static void promise16DifferenceRatherThanPlace() {
        change("e3:1;e4:0", 0, 1, 3);
        change("o0:2;o4:0;e4:1", 0, 1, 5);
        change("e1:1;o3:0,2;e3:0", 2, 1, 4);
        change("o0:1;e2:0,2;e4:0", 2, 1, 5);
        change("o0:1;e4:0;o4:1,2", 2, 1, 3);
    }

    /** "of several the lowest place": whatever its rank is. */
    static void promise16LowestPlace() {
        change("e5:0,1;o3:1", 0, 0, 4);
        change("o5:0;e1:0,1", 1, 0, 4);
        change("o1:1;e1:0,1", 0, 0, 2);
        change("e2:1;o2:0", 1, 0, 3);
        change("o3:0,1;e3:0,2;o5:1", 2, 0, 4);
        change("e0:2;e2:0;e0:0,1", 2, 0, 3);
        change("e0:1,2;o4:2;o0:0", 2, 0, 5);
    }

    /** "then the lower rank" */
    static void promise16LowerRank() {
        change("e3:0", 0, 0, 2);
        change("o1:0", 0, 0, 0);
        change("o4:0", 0, 0, 3);
        change("e3:0;o4:0", 1, 0, 2);
        change("o2:0,1;o4:0", 1, 0, 1);
        change("e5:1;o1:1", 0, 1, 0);
    }

    /** There is no rank below 0 and none above 5. */
    static void promise16RanksAtTheEnds() {
        change("e0:0", 0, 0, 1);
        change("e5:0", 0, 0, 4);
        change("e4:0", 0, 0, 3);
        change("o1:0", 0, 0, 0);
        change("e0:1;o0:0", 1, 0, 1);
        change("e5:1;o5:0", 1, NOT_FOUND, NOT_FOUND);
        change("e5:1;o4:0", 1, 0, 4);
    }

    /** "by which another player wins from a place": from this one, not from any. */
    static void promise16FromThisPlace() {
        change("e3:0;e3:1", 0, 0, 2);
        change("e3:0;e3:1", 1, 1, 2);
        change("e2:0;o4:1;e0:1", 2, 1, 3);
        change("e2:0;o4:1;e0:0", 2, 0, 1);
        change("e0;o4:1", 0, NOT_FOUND, NOT_FOUND);
        change("e0;o4:1", 1, 1, 3);
    }

    /** "NOT_FOUND if no such change does it" */
    static void promise16NoSuchChange() {
        change("e0", 0, NOT_FOUND, NOT_FOUND);
        change("o5", 0, NOT_FOUND, NOT_FOUND);
        change("e0:1;o3", 0, NOT_FOUND, NOT_FOUND);
        change("e0:0,1;o3", 0, NOT_FOUND, NOT_FOUND);
        change("e5:1;e5:0", 0, NOT_FOUND, NOT_FOUND);
        change("e0:0,1;e0:0,1", 0, NOT_FOUND, NOT_FOUND);
        leavesAll("the place", () -> field("e0"), rings -> rings.littleChange(0, 0), NOT_FOUND);
        leavesAll("the rank", () -> field("e0"), rings -> rings.littleChange(0, 1), NOT_FOUND);
    }

    /** "place: number of the place whose winner changes" */
    static void promise16Place() {
        for (int what = 0; what <= 1; what++) {
            final int asked = what;
            leavesAll("place -1", Checks::busy, rings -> rings.littleChange(-1, asked), INVALID);
            leavesAll("place 5", Checks::busy, rings -> rings.littleChange(5, asked), INVALID);
            due("place 12 of twelve", busyWithTwelve().littleChange(12, what), INVALID);
            for (int far : FAR) {
                due("place " + far, busy().littleChange(far, what), INVALID);
            }
        }
        RankRings twelve = field("e0;e0;e0;e0;e0;e0;e0;e0;e0;e0;e0;e2:11");
        due("place 11 of twelve", twelve.littleChange(11, 0), 11);
        due("its rank", twelve.littleChange(11, 1), 1);
        due("place 0 of twelve", twelve.littleChange(0, 0), NOT_FOUND);
    }

    /** "what: 0: the place with another rank; 1: the rank" */
    static void promise16What() {
        leavesAll("what -1", Checks::busy, rings -> rings.littleChange(0, -1), INVALID);
        leavesAll("what 2", Checks::busy, rings -> rings.littleChange(0, 2), INVALID);
        due("what 2 of an end", field("e0").littleChange(0, 2), INVALID);
        due("what -1 of an end", field("e0").littleChange(0, -1), INVALID);
        for (int far : FAR) {
            due("what " + far, busy().littleChange(0, far), INVALID);
        }
    }

    /** To ask changes nothing, not even in what is asked next. */
    static void promise16NothingIsLeft() {
        RankRings rings = field("e2:2;e2:2;e1:0,1");
        for (int round = 0; round < 2; round++) {
            due("the place", rings.littleChange(0, 0), 2);
            due("won by 0", rings.count(2), 7);
            due("choice", rings.placeOf(2, 5), 0);
            due("the rank", rings.littleChange(0, 1), 3);
            due("another place", rings.littleChange(1, 1), 3);
            due("play", rings.play(2, 2), 2);
            due("only", rings.only(2, 1), 7);
        }
        leavesAll("littleChange", Checks::busy, busy -> busy.littleChange(0, 1), busy().littleChange(0, 1));
    }
}
