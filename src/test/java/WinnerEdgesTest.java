/** Promises 7 and 8, sentence by sentence, at their edges. The comments are the document's words. */
public final class WinnerEdgesTest extends Checks {

    public static void main(String[] args) throws Exception {
        runAll(WinnerEdgesTest.class);
    }

    private static void wonBy0(String text, int due) {
        RankRings rings = field(text);
        int all = (1 << rings.count(0)) - 1;
        due(text + " won by 0", rings.count(2), due);
        due(text + " won by 1", rings.count(3), all & ~due);
        for (int place = 0; place < rings.count(0); place++) {
            due(text + " winner from " + place, rings.placeOf(place, 4), (due >> place & 1) == 1 ? 0 : 1);
        }
    }

    private static void choices(String text, int... due) {
        RankRings rings = field(text);
        due(text + " has so many places", rings.count(0), due.length);
        for (int place = 0; place < due.length; place++) {
            due(text + " choice at " + place, rings.placeOf(place, 5), due[place]);
        }
    }

    /** Twelve places, each with a way to each: what no text of 80 characters tells. */
    private static RankRings full() {
        RankRings rings = places(12);
        for (int from = 0; from < 12; from++) {
            for (int to = 0; to < 12; to++) {
                rings.way(from, to, 1);
            }
        }
        return rings;
    }

    // ---- who wins from where

    /** "A play that comes to a place without ways ends there: its owner loses." */
    static void promise7Ends() {
        for (int rank = 0; rank <= 5; rank++) {
            wonBy0("e" + rank, 0);
            wonBy0("o" + rank, 1);
            wonBy0("e" + rank + ":1;e" + rank, 0);
            wonBy0("o" + rank + ":1;o" + rank, 3);
            wonBy0("e" + rank + ":1;o" + rank, 3);
            wonBy0("o" + rank + ":1;e" + rank, 0);
        }
    }

    /** "won by the player 0 if the greatest rank ... is even, otherwise by the player 1", for each rank and owner. */
    static void promise7GreatestRank() {
        for (int rank = 0; rank <= 5; rank++) {
            wonBy0("e" + rank + ":0", 1 - rank % 2);
            wonBy0("o" + rank + ":0", 1 - rank % 2);
            for (int other = 0; other <= 5; other++) {
                int due = Math.max(rank, other) % 2 == 0 ? 3 : 0;
                wonBy0("e" + rank + ":1;o" + other + ":0", due);
                wonBy0("o" + rank + ":1;e" + other + ":0", due);
            }
        }
    }

    /** "that is met again and again without end": a rank that is met but once is nothing. */
    static void promise7MetAgainAndAgain() {
        wonBy0("e5:1;e0:1", 3);
        wonBy0("o4:1;o1:1", 0);
        wonBy0("e5:1;e5:2;e2:3;e0:2", 15);
        wonBy0("e4:1;e4:2;e0:3;e1:2", 0);
    }

    /** "the owner of the place at which it is chooses the way" */
    static void promise7OwnerChooses() {
        wonBy0("e0:0,1;e1:1", 1);
        wonBy0("o0:0,1;e1:1", 0);
        wonBy0("e1:0,1;e0:1", 3);
        wonBy0("o1:0,1;e0:1", 2);
        wonBy0("e0:1,2;o0:1;o1:2", 3);
        wonBy0("o0:1,2;e0:1;e1:2", 2);
        wonBy0("o1:0,1;e1", 0);
        wonBy0("e1:0,1;o1", 3);
        wonBy0("o0:0,1;o1", 3);
        wonBy0("e0:0,1;e0", 1);
    }

    /** Both players have their say in a ring. */
    static void promise7BothChoose() {
        wonBy0("e1:1,2;o2:0,3;e0:0;e3:0", 0);
        wonBy0("e1:1,2;o2:0,3;e4:0;e3:0", 15);
        wonBy0("o2:1;e1:0,2;o3:1,2", 3);
        wonBy0("e2:1;o1:0,2;e4:1,2", 7);
        wonBy0("e2:1;o1:0,2;e3:2", 0);
    }

    /** "by whatever has been so far": a place may be passed again and again, by no more than one way of its own. */
    static void promise7TwelveInARing() {
        for (int five = 0; five < 12; five++) {
            StringBuilder text = new StringBuilder();
            for (int place = 0; place < 12; place++) {
                text.append(place == 0 ? "e" : ";o").append(place == five ? 5 : 4);
                text.append(':').append((place + 1) % 12);
            }
            wonBy0(text.toString(), 0);
            wonBy0(text.toString().replace('5', '0'), 4095);
        }
    }

    /** "From each place just one of both players wins." */
    static void promise7JustOne() {
        RankRings rings = full();
        due("won by either", rings.count(2) ^ rings.count(3), 4095);
        due("won by both", rings.count(2) & rings.count(3), 0);
        for (int place = 0; place < 12; place++) {
            due("winner", rings.placeOf(place, 4), (rings.count(3) & 1 << place) == 0 ? 0 : 1);
        }
    }

    // ---- what is told of a place

    /** "what: 0: its owner; 1: its rank; 2: ...; 3: ...; 4: ...; 5: ..." */
    static void promise7What() {
        RankRings rings = field("o5:0,2;e4:0;o3:0,1,2");
        int[][] dues = {{1, 5, 5, 7, 1, 0}, {0, 4, 1, 4, 1, 0}, {1, 3, 7, 5, 1, 0}};
        for (int place = 0; place < 3; place++) {
            for (int what = 0; what <= 5; what++) {
                due("placeOf " + place + " " + what, rings.placeOf(place, what), dues[place][what]);
            }
        }
        leavesAll("what -1", Checks::busy, busy -> busy.placeOf(0, -1), INVALID);
        leavesAll("what 6", Checks::busy, busy -> busy.placeOf(0, 6), INVALID);
        for (int far : FAR) {
            due("what " + far, rings.placeOf(0, far), INVALID);
        }
    }

    /** "place: number of the place" */
    static void promise7Place() {
        RankRings rings = busyWithTwelve();
        for (int what = 0; what <= 5; what++) {
            final int asked = what;
            due("place 0", rings.placeOf(0, what) < 0 ? 1 : 0, 0);
            due("place 11", rings.placeOf(11, what) < 0 ? 1 : 0, 0);
            due("place -1", rings.placeOf(-1, what), INVALID);
            due("place 12", rings.placeOf(12, what), INVALID);
            leavesAll("place 5 of five", Checks::busy, busy -> busy.placeOf(5, asked), INVALID);
            for (int far : FAR) {
                due("place " + far, rings.placeOf(far, what), INVALID);
            }
        }
    }

    /** "2: the places to which it has ways, as a set; 3: the places that have a way to it, as a set" */
    static void promise7Sets() {
        RankRings rings = full();
        for (int place = 0; place < 12; place++) {
            due("all ways from", rings.placeOf(place, 2), 4095);
            due("all ways to", rings.placeOf(place, 3), 4095);
        }
        rings.way(3, 11, 0);
        due("all ways from but one", rings.placeOf(3, 2), 2047);
        due("all ways to but one", rings.placeOf(11, 3), 4095 - 8);
        due("the other way stays", rings.placeOf(11, 2), 4095);
        RankRings none = places(12);
        due("no ways from", none.placeOf(11, 2), 0);
        due("no ways to", none.placeOf(11, 3), 0);
        RankRings itself = field("e0:0");
        due("from itself", itself.placeOf(0, 2), 1);
        due("to itself", itself.placeOf(0, 3), 1);
    }

    /** "NOT_FOUND for 5 if it has no way", whoever owns it and wins from it; for no other what. */
    static void promise7NoChoice() {
        RankRings rings = field("e0;o1;e2:0;o3:1");
        due("0's end", rings.placeOf(0, 5), NOT_FOUND);
        due("1's end", rings.placeOf(1, 5), NOT_FOUND);
        due("a way", rings.placeOf(2, 5), 0);
        due("a way", rings.placeOf(3, 5), 1);
        for (int what = 0; what <= 4; what++) {
            due("what else of an end", rings.placeOf(1, what) < 0 ? 1 : 0, 0);
        }
        rings.way(0, 0, 1);
        due("a way now", rings.placeOf(0, 5), 0);
        rings.way(0, 0, 0);
        due("none again", rings.placeOf(0, 5), NOT_FOUND);
        leavesAll("no choice", () -> field("e0;o1"), ends -> ends.placeOf(1, 5), NOT_FOUND);
    }

    /** "INVALID_ARGUMENT is returned rather than ... NOT_FOUND" */
    static void promise7InvalidRatherThanNotFound() {
        RankRings rings = field("e0");
        due("what 6 of an end", rings.placeOf(0, 6), INVALID);
        due("the choice at no place", rings.placeOf(1, 5), INVALID);
        due("the choice at no place", new RankRings().placeOf(0, 5), INVALID);
    }

    // ---- choices

    /** "The other player's choice at a place with ways is the lowest way." */
    static void promise7LosersChoice() {
        choices("e1:1,2;e1:0,1,2;e3:2", 1, 0, 2);
        choices("o0:2;o0:2;o2:1,2", 2, 2, 1);
        choices("e5:0;o5:0;e5:0,1,2", 0, 0, 0);
        // The places 2 and 3 lose; a higher way of theirs goes to a longer play.
        choices("e1;e1:0;e2:0,1,3;e3:0,2", NOT_FOUND, 0, 0, 0);
    }

    /** "each by the lowest way such that ... all places would be won by the same players as they are" */
    static void promise7LowestWay() {
        choices("e2:0,1,2;e2:0,1,2;e2:0,1,2", 0, 0, 0);
        choices("e1:0,1,2;e2:0;e2:0", 1, 0, 0);
        choices("e1:0,1,2;e3:0;e2:0", 2, 0, 0);
        choices("e0:1,2;e0:1;o0", 1, 1, NOT_FOUND);
        choices("e0:1,2;o1:1;e2:2", 2, 1, 2);
        choices("o1:0,1;o2:0", 0, 0);
        choices("o2:0,1;o1:0", 0, 0);
        choices("o2:0,1;o3:0", 1, 0);
    }

    /** A way to a place that the player wins from need not do: what goes round for ever may be lost. */
    static void promise7WayThatGoesRound() {
        choices("e1:0,1;o0", 1, NOT_FOUND);
        choices("o0:0,1;e0", 1, NOT_FOUND);
        choices("o5;e1:1,2;e1:0,1", NOT_FOUND, 2, 0);
        // At 1 the way to 0 gives the play away, so the way to itself is the lowest that will do.
        choices("e0:2;o1:0,1;e0:1,2", 2, 1, 2);
    }

    /** "if this place and all that were settled before it ... had this one way alone": in the order of the numbers. */
    static void promise7SettledBefore() {
        choices("e1:1,2;e1:0,2;o1", 1, 2, NOT_FOUND);
        choices("o0:1,2;o0:0,2;e1", 1, 2, NOT_FOUND);
        choices("e1:1,3;e1:2,3;e1:0,3;o1", 1, 2, 3, NOT_FOUND);
        choices("o2;e1:2,0;e1:1,0", NOT_FOUND, 0, 0);
        choices("e1:2,3;o1:3;e1:0,3;o5", 2, 3, 3, NOT_FOUND);
    }

    /** Those that are not settled yet have all of their ways still. */
    static void promise7NotSettledYet() {
        // 0 may rely on a way of 1 that is not its lowest.
        choices("e1:1,2;e1:0,3;e1:3;o0", 1, 3, 3, NOT_FOUND);
        choices("o0:1,2;o0:0,3;o0:3;e0", 1, 3, 3, NOT_FOUND);
    }

    /** "(of both players)": both have choices in one field. */
    static void promise7BothPlayers() {
        choices("e1:0,2;o0:1,3;o0;e0", 2, 3, NOT_FOUND, NOT_FOUND);
        choices("e1:1,4;e1:0,4;o0:3,5;o0:2,5;o1;e0", 1, 4, 3, 5, NOT_FOUND, NOT_FOUND);
    }

    /** Among twelve places and all ways: each place goes to the lowest that will do. */
    static void promise7ChoicesOfTwelve() {
        RankRings rings = full();
        due("0 wins nothing that 1 can leave", rings.count(2) | rings.count(3), 4095);
        for (int place = 0; place < 12; place++) {
            int choice = rings.placeOf(place, 5);
            due("choice is a way", choice >= 0 && choice < 12 ? 1 : 0, 1);
            due("the winner stays with the choice", rings.placeOf(choice, 4), rings.placeOf(place, 4));
        }
        choices("e0:11;e0:0;e0:1;e0:2;e0:3;e0:4;e0:5;e0:6;e0:7;e0:8;e0:9;e0:10", 11, 0, 1, 2, 3, 4, 5, 6, 7, 8, 9, 10);
    }

    /** The choices are those of the field as it is now. */
    static void promise7ChoicesAfterChanges() {
        RankRings rings = field("e1:0,1;e2:0");
        due("choice", rings.placeOf(0, 5), 1);
        rings.rank(0, 2);
        due("after rank", rings.placeOf(0, 5), 0);
        rings.undo();
        due("after undo", rings.placeOf(0, 5), 1);
        rings.way(0, 1, 0);
        due("after way", rings.placeOf(0, 5), 0);
        rings.keep();
        rings.own(1, 1);
        rings.way(0, 1, 1);
        due("after own and way", rings.placeOf(0, 5), 1);
        rings.restore();
        due("after restore", rings.placeOf(0, 5), 0);
        type(rings, "o0:1;e0");
        due("typing is no change", rings.placeOf(0, 5), 0);
        rings.read();
        due("after read", rings.placeOf(0, 5), 1);
        due("after read", rings.placeOf(1, 5), NOT_FOUND);
        rings.drop(0);
        due("after drop", rings.placeOf(0, 5), NOT_FOUND);
        rings.add(1, 0);
        due("after add", rings.placeOf(1, 5), NOT_FOUND);
    }

    // ---- promise 8

    /** "INVALID_ARGUMENT if what is out of range" */
    static void promise8What() {
        leavesAll("what -1", Checks::busy, rings -> rings.count(-1), INVALID);
        leavesAll("what 9", Checks::busy, rings -> rings.count(9), INVALID);
        due("what 0", busy().count(0), 5);
        due("what 8", busy().count(8), 1);
        due("what 9 without places", new RankRings().count(9), INVALID);
        for (int far : FAR) {
            due("what " + far, busy().count(far), INVALID);
        }
    }

    /** "0: places; 1: ways": from none to twelve and 144. */
    static void promise8PlacesAndWays() {
        RankRings rings = full();
        due("places", rings.count(0), 12);
        due("ways", rings.count(1), 144);
        rings.way(11, 0, 0);
        due("ways", rings.count(1), 143);
        rings.drop(11);
        due("places", rings.count(0), 11);
        due("ways", rings.count(1), 121);
        due("places of none", places(0).count(0), 0);
        due("ways of none", places(0).count(1), 0);
        due("ways of one", places(1).count(1), 0);
        due("a way to itself is one", field("e0:0").count(1), 1);
        due("ways there and back are two", field("e0:1;e0:0").count(1), 2);
    }

    /** "2: places from which the player 0 wins, as a set; 3: those from which the player 1 wins, as a set" */
    static void promise8Winners() {
        String even = "e0:0;o0:1;o0;o0;o0;o0;o0;o0;o0;o0;o0;o0";
        due("all won by 0", field(even).count(2), 4095);
        due("none won by 1", field(even).count(3), 0);
        String odd = "o1:0;e1:1;e1;e1;e1;e1;e1;e1;e1;e1;e1;e1";
        due("none won by 0", field(odd).count(2), 0);
        due("all won by 1", field(odd).count(3), 4095);
        due("just the last won by 0", field("e0;e0;e0;e0;e0;e0;e0;e0;e0;e0;e0;o0").count(2), 2048);
        due("just the last won by 1", field("o0;o0;o0;o0;o0;o0;o0;o0;o0;o0;o0;e0").count(3), 2048);
    }

    /** "4: places without ways, as a set": both players', none and all. */
    static void promise8WithoutWays() {
        due("all", places(12).count(4), 4095);
        due("none", full().count(4), 0);
        due("of both players", field("e0;o0;e0:0;o0:0").count(4), 3);
        due("a way to it is no way of it", field("e0;e0:0").count(4), 1);
        RankRings rings = field("e0;e0:1");
        rings.way(1, 1, 0);
        due("taken away", rings.count(4), 3);
        rings.way(1, 0, 1);
        due("made", rings.count(4), 1);
    }

    /** "5: the greatest rank", "NOT_FOUND for 5 without places" */
    static void promise8GreatestRank() {
        for (int rank = 0; rank <= 5; rank++) {
            due("of one place", field("e" + rank).count(5), rank);
            due("of the first", field("e" + rank + ";e0").count(5), rank);
            due("of the last", field("e0;e0;e" + rank).count(5), rank);
        }
        leavesAll("of none", RankRings::new, rings -> rings.count(5), NOT_FOUND);
        RankRings rings = field("e5;e2");
        rings.drop(0);
        due("the place with the greatest one is gone", rings.count(5), 2);
        rings.drop(0);
        due("both are gone", rings.count(5), NOT_FOUND);
        rings.add(0, 0);
        due("of a place with rank 0", rings.count(5), 0);
        due("of the twelfth", field("e0;e0;e0;e0;e0;e0;e0;e0;e0;e0;e0;e5").count(5), 5);
    }

    /** "6: states in the history": from 0 to 4, not 5. */
    static void promise8States() {
        RankRings rings = new RankRings();
        int[] due = {1, 2, 3, 4, 4, 4};
        due("none", rings.count(6), 0);
        for (int change = 0; change < 6; change++) {
            rings.add(0, 0);
            due("states", rings.count(6), due[change]);
        }
        for (int left = 3; left >= 0; left--) {
            rings.undo();
            due("states", rings.count(6), left);
        }
    }

    /** "7: the length of the text": from 0 to 80. */
    static void promise8Length() {
        RankRings rings = new RankRings();
        due("none", rings.count(7), 0);
        for (int length = 1; length <= 80; length++) {
            rings.type(' ');
            due("length", rings.count(7), length);
        }
        rings.type(' ');
        due("full", rings.count(7), 80);
        rings.clearText();
        due("cleared", rings.count(7), 0);
    }

    /** "8: 1 if there is a snapshot, otherwise 0", also if it is one without places. */
    static void promise8Snapshot() {
        RankRings rings = new RankRings();
        due("none", rings.count(8), 0);
        rings.restore();
        due("restoring makes none", rings.count(8), 0);
        rings.keep();
        due("one without places", rings.count(8), 1);
        rings.keep();
        due("one in its place", rings.count(8), 1);
        rings.add(0, 0);
        rings.restore();
        due("it stays", rings.count(8), 1);
        rings.undo();
        rings.undo();
        due("it stays, though the changes since are undone", rings.count(8), 1);
    }

    /** To ask changes nothing. */
    static void promise8AskingChangesNothing() {
        for (int what = 0; what <= 8; what++) {
            final int asked = what;
            int due = busy().count(what);
            leavesAll("count " + what, Checks::busy, rings -> rings.count(asked), due);
            if (what <= 5) {
                int duePlace = busy().placeOf(3, what);
                leavesAll("placeOf 3 " + what, Checks::busy, rings -> rings.placeOf(3, asked), duePlace);
            }
        }
    }
}
