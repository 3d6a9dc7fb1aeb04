/** Promises 9 to 12, sentence by sentence, at their edges. The comments are the document's words. */
public final class RegionEdgesTest extends Checks {
    private static final int ALL_OF_12 = 4095;

    public static void main(String[] args) throws Exception {
        runAll(RegionEdgesTest.class);
    }

    /** Place k leads to the place k - 1 alone, place 0 to none: all belong to one player. */
    private static RankRings chain(char owner, int places) {
        StringBuilder text = new StringBuilder().append(owner).append(0);
        for (int place = 1; place < places; place++) {
            text.append(';').append(owner).append("0:").append(place - 1);
        }
        return field(text.toString());
    }

    /** Checks both calls that tell of pulling: steps by places, NOT_FOUND where the player cannot. */
    private static void pulls(String text, int player, int set, int... steps) {
        RankRings rings = field(text);
        int region = 0;
        String what = text + " by " + player + " into " + set;
        for (int place = 0; place < steps.length; place++) {
            region |= steps[place] == NOT_FOUND ? 0 : 1 << place;
            due(what + ", steps of " + place, rings.steps(player, set, place), steps[place]);
        }
        due(what, rings.pulled(player, set), region);
        due(what + ", all places looked at", rings.count(0), steps.length);
    }

    // ---- promises 9 and 10

    /** "What a player can pull into a set of places is the set itself", "the set has 0 steps". */
    static void promise9TheSetItself() {
        for (int player = 0; player <= 1; player++) {
            pulls("e0;o0;e0:1;o0:0", player, 1 + 2, 0, 0, 1, 1);
            pulls("e0;o0;e0:1;o0:0", player, 15, 0, 0, 0, 0);
            pulls("e0:0,1;o0:0,1", player, 3, 0, 0);
            pulls("e0;o0", player, 1, 0, NOT_FOUND);
            pulls("e0;o0", player, 2, NOT_FOUND, 0);
        }
    }

    /** "set: a set of places, perhaps empty" */
    static void promise9EmptySet() {
        for (int player = 0; player <= 1; player++) {
            pulls("e0;o0;e0:1;o0:0,3", player, 0, NOT_FOUND, NOT_FOUND, NOT_FOUND, NOT_FOUND);
            due("without places", new RankRings().pulled(player, 0), 0);
        }
    }

    /** "it belongs to the player and has a way to a place with at most n steps" */
    static void promise9OwnPlaceWithOneWay() {
        pulls("e0;e0:0;e0:1,2;e0:3;e0:2,3,4", 0, 1, 0, 1, 2, NOT_FOUND, 3);
        pulls("o0;o0:0;o0:1,2;o0:3;o0:2,3,4", 1, 1, 0, 1, 2, NOT_FOUND, 3);
        pulls("e0;e0:0;e0:0,1;e0:1,2", 0, 1, 0, 1, 1, 2);
    }

    /** "it belongs to the other one, has a way, and all of its ways go to places with at most n steps" */
    static void promise9OtherPlaceWithAllWays() {
        pulls("e0;o0:0;o0:0,2;o0:0,1;o0", 0, 1, 0, 1, NOT_FOUND, 2, NOT_FOUND);
        pulls("o0;e0:0;e0:0,2;e0:0,1;e0", 1, 1, 0, 1, NOT_FOUND, 2, NOT_FOUND);
        pulls("e0;o0:0;o0:1;o0:0,1,2,3;o0:0,1,2", 0, 1, 0, 1, 2, NOT_FOUND, 3);
    }

    /** "has a way": an end belongs to no region but by being in the set. */
    static void promise9EndsAreNotPulled() {
        for (int player = 0; player <= 1; player++) {
            pulls("e0;o0;e0:0", player, 1, 0, NOT_FOUND, 1);
            pulls("e0;o0;e0:0", player, 2, NOT_FOUND, 0, NOT_FOUND);
            pulls("e0;o0;e0:0", player, 4, NOT_FOUND, NOT_FOUND, 0);
        }
    }

    /** "a place has n + 1 steps if it has not fewer": the fewest of the player's ways, the most of the other's. */
    static void promise10FewestAndMost() {
        pulls("e0;e0:0;e0:1;e0:2,1;o0:0,2;o0:0,1,2", 0, 1, 0, 1, 2, 2, 3, 3);
        pulls("o0;o0:0;o0:1;o0:2,1;e0:0,2;e0:0,1,2", 1, 1, 0, 1, 2, 2, 3, 3);
        pulls("o0:1,2;o0:2;e0", 0, 4, 2, 1, 0);
        pulls("o0:1,2;o0:2;e0", 1, 4, 1, 1, 0);
    }

    /** The longest way among twelve places: 11 steps; for the other player 0 to 11 as well. */
    static void promise10ElevenSteps() {
        for (int player = 0; player <= 1; player++) {
            for (char owner : new char[] {'e', 'o'}) {
                RankRings rings = chain(owner, 12);
                due("pulled", rings.pulled(player, 1), ALL_OF_12);
                for (int place = 0; place < 12; place++) {
                    due("steps", rings.steps(player, 1, place), place);
                }
                due("pulled into the middle", rings.pulled(player, 32), ALL_OF_12 - 31);
                due("steps of the last", rings.steps(player, 32, 11), 6);
                due("steps behind it", rings.steps(player, 32, 4), NOT_FOUND);
                due("pulled into the last", rings.pulled(player, 2048), 2048);
            }
        }
    }

    /** Places are pulled whatever their numbers' order is. */
    static void promise10OtherOrder() {
        pulls("e0:1;o0:2;e0:3;o0:4;e0:5;o0", 0, 32, 5, 4, 3, 2, 1, 0);
        pulls("e0:1;o0:2;e0:3;o0:4;e0:5;o0", 1, 32, 5, 4, 3, 2, 1, 0);
    }

    /** "Returns the steps", not those of another set or player: nothing is kept of what was asked before. */
    static void promise10OneAfterAnother() {
        RankRings rings = field("e0:1,2;o0:2,0;e0;o0:0,3");
        due("into 2 by 0", rings.pulled(0, 4), 7);
        due("into 2 by 1", rings.pulled(1, 4), 15);
        due("into 2 by 0", rings.steps(0, 4, 1), 2);
        due("into 2 by 1", rings.steps(1, 4, 1), 1);
        due("into 0 by 0", rings.steps(0, 1, 1), NOT_FOUND);
        due("into 2 by 0", rings.steps(0, 4, 1), 2);
        due("into 2 by 1", rings.steps(1, 4, 3), 3);
        due("into 2 by 0", rings.steps(0, 4, 3), NOT_FOUND);
        rings.way(0, 2, 0);
        due("into 2 by 0", rings.steps(0, 4, 1), NOT_FOUND);
        rings.undo();
        due("into 2 by 0", rings.steps(0, 4, 1), 2);
    }

    // ---- wrong arguments of 9 to 12

    /** "player: 0 or 1" */
    static void promise9To12Player() {
        for (int wrong : new int[] {-1, 2}) {
            leavesAll("pulled", Checks::busy, rings -> rings.pulled(wrong, 1), INVALID);
            leavesAll("steps", Checks::busy, rings -> rings.steps(wrong, 1, 0), INVALID);
            leavesAll("trap", Checks::busy, rings -> rings.trap(wrong, 1), INVALID);
            leavesAll("greatestTrap", Checks::busy, rings -> rings.greatestTrap(wrong, 1), INVALID);
            due("an empty set", busy().pulled(wrong, 0), INVALID);
            due("an empty set", busy().steps(wrong, 0, 0), INVALID);
            due("an empty set", busy().trap(wrong, 0), INVALID);
            due("an empty set", busy().greatestTrap(wrong, 0), INVALID);
            due("without places", new RankRings().pulled(wrong, 0), INVALID);
            due("without places", new RankRings().trap(wrong, 0), INVALID);
            due("without places", new RankRings().greatestTrap(wrong, 0), INVALID);
        }
        RankRings rings = busy();
        for (int far : FAR) {
            due("pulled by " + far, rings.pulled(far, 1), INVALID);
            due("steps by " + far, rings.steps(far, 1, 0), INVALID);
            due("trap for " + far, rings.trap(far, 1), INVALID);
            due("greatestTrap for " + far, rings.greatestTrap(far, 1), INVALID);
        }
    }

    private static void allSetsOf(RankRings rings, int set, boolean isInvalid) {
        for (int player = 0; player <= 1; player++) {
            due("pulled " + set, rings.pulled(player, set) == INVALID ? 1 : 0, isInvalid ? 1 : 0);
            due("steps " + set, rings.steps(player, set, 0) == INVALID ? 1 : 0, isInvalid ? 1 : 0);
            due("trap " + set, rings.trap(player, set) == INVALID ? 1 : 0, isInvalid ? 1 : 0);
            due("greatestTrap " + set, rings.greatestTrap(player, set) == INVALID ? 1 : 0, isInvalid ? 1 : 0);
        }
    }

    /** "INVALID_ARGUMENT if ... there is no such place": one member too high is enough. */
    static void promise9To12Set() {
        for (int places = 1; places <= 12; places++) {
            int all = (1 << places) - 1;
            RankRings rings = places(places);
            allSetsOf(rings, 0, false);
            allSetsOf(rings, 1 << places - 1, false);
            allSetsOf(rings, all, false);
            allSetsOf(rings, all + 1, true);
            allSetsOf(rings, all + 2, true);
            allSetsOf(rings, 2 * all + 1, true);
            allSetsOf(rings, 1 << 12, true);
            allSetsOf(rings, 1 << 30, true);
            allSetsOf(rings, -1, true);
            allSetsOf(rings, ~all, true);
            allSetsOf(rings, Integer.MIN_VALUE, true);
            allSetsOf(rings, Integer.MIN_VALUE + 1, true);
            allSetsOf(rings, Integer.MAX_VALUE, true);
        }
        leavesAll("pulled", Checks::busy, rings -> rings.pulled(0, 32), INVALID);
        leavesAll("steps", Checks::busy, rings -> rings.steps(0, 33, 0), INVALID);
        leavesAll("trap", Checks::busy, rings -> rings.trap(1, 63), INVALID);
        leavesAll("greatestTrap", Checks::busy, rings -> rings.greatestTrap(1, -1), INVALID);
    }

    /** "place: number of the place" */
    static void promise10Place() {
        due("the first", busy().steps(0, 1, 0), 0);
        due("the last", busy().steps(0, 16, 4), 0);
        leavesAll("place -1", Checks::busy, rings -> rings.steps(0, 1, -1), INVALID);
        leavesAll("place 5", Checks::busy, rings -> rings.steps(0, 1, 5), INVALID);
        due("place 11 of twelve", places(12).steps(1, 2048, 11), 0);
        due("place 12 of twelve", places(12).steps(1, 2048, 12), INVALID);
        for (int far : FAR) {
            due("place " + far, busy().steps(0, 1, far), INVALID);
        }
    }

    /** "INVALID_ARGUMENT is returned rather than ... NOT_FOUND"; "NOT_FOUND if the player cannot" */
    static void promise10InvalidRatherThanNotFound() {
        leavesAll("cannot", Checks::busy, rings -> rings.steps(0, 0, 0), NOT_FOUND);
        due("player", busy().steps(2, 0, 0), INVALID);
        due("set", busy().steps(0, 32, 0), INVALID);
        due("place", busy().steps(0, 0, 5), INVALID);
        due("without places", new RankRings().steps(0, 0, 0), INVALID);
    }

    // ---- promise 11

    private static void traps(String text, int set, int due0, int due1) {
        RankRings rings = field(text);
        due(text + " trap for 0: " + set, rings.trap(0, set), due0);
        due(text + " trap for 1: " + set, rings.trap(1, set), due1);
    }

    /** "each place of the set that belongs to the player has all of its ways within the set" */
    static void promise11OwnPlace() {
        traps("e0:0;o0", 1, 1, 1);
        traps("e0:0,1;o0", 1, 0, 1);
        traps("e0:0,1;o0", 3, 1, 1);
        traps("e0:1;o0", 1, 0, 0);
        traps("o0:0,1;e0", 1, 1, 0);
        traps("o0:0,1;e0", 3, 1, 1);
        traps("o0:1;e0", 1, 0, 0);
    }

    /** "each other place of the set has a way within the set, or no way at all"; so does the player's, of course. */
    static void promise11OtherPlace() {
        traps("e0;o0", 1, 1, 1);
        traps("e0;o0", 2, 1, 1);
        traps("e0;o0", 3, 1, 1);
        traps("e0:1,2;o0:0,2;e0", 3, 0, 0);
        traps("e0:1;o0:0,2;e0", 3, 1, 0);
        traps("e0:1,2;o0:0;e0", 3, 0, 1);
        traps("e0:1;o0:0;e0", 3, 1, 1);
        traps("e0:1;o0:2;e0", 3, 0, 0);
        traps("e0:2;o0:0;e0", 3, 0, 0);
    }

    /** The empty set has no place that leaves it; the set of all places none that leads out. */
    static void promise11EmptyAndAll() {
        for (int player = 0; player <= 1; player++) {
            due("the empty set", busy().trap(player, 0), 1);
            due("all", busy().trap(player, 31), 1);
            due("the empty set of none", new RankRings().trap(player, 0), 1);
            due("the empty set of twelve", places(12).trap(player, 0), 1);
            due("twelve ends", places(12).trap(player, ALL_OF_12), 1);
            due("each end of twelve", places(12).trap(player, 2048), 1);
            due("twelve in a chain", chain('e', 12).trap(player, ALL_OF_12), 1);
            due("without the first", chain('o', 12).trap(player, ALL_OF_12 - 1), 0);
            due("without the last", chain('o', 12).trap(player, ALL_OF_12 - 2048), 1);
        }
    }

    // ---- promise 12

    private static void greatest(String text, int set, int due0, int due1) {
        RankRings rings = field(text);
        due(text + " greatest trap for 0: " + set, rings.greatestTrap(0, set), due0);
        due(text + " greatest trap for 1: " + set, rings.greatestTrap(1, set), due1);
        due(text + " is a trap for 0: " + due0, rings.trap(0, due0), 1);
        due(text + " is a trap for 1: " + due1, rings.trap(1, due1), 1);
    }

    /** "Returns the set of all places of traps within it": a trap itself, several, a part, none. */
    static void promise12PlacesOfTraps() {
        greatest("e0:1;o0:0,2;e0", 3, 3, 0);
        greatest("e0:1,2;o0:0;e0", 3, 0, 3);
        greatest("e0:0;o0:1;e0:0,1,3;o0", 7, 3, 7);
        greatest("e0:0;o0:1;o0:0,1,3;o0", 7, 7, 3);
        greatest("e0:0;o0:1;e0:3;o0", 7, 3, 3);
        greatest("e0:0;o0:1;e0:3;o0", 4, 0, 0);
        greatest("e0;o0;e0:0,1", 7, 7, 7);
        greatest("e0;o0;e0:0,1", 5, 1, 5);
        greatest("e0;o0;o0:0,1", 5, 5, 1);
    }

    /** What is left may fall place by place, eleven times. */
    static void promise12OneByOne() {
        for (int player = 0; player <= 1; player++) {
            for (char owner : new char[] {'e', 'o'}) {
                due("all fall", chain(owner, 12).greatestTrap(player, ALL_OF_12 - 1), 0);
                due("none falls", chain(owner, 12).greatestTrap(player, ALL_OF_12), ALL_OF_12);
                due("six fall", chain(owner, 12).greatestTrap(player, ALL_OF_12 - 32), 31);
            }
            due("in the other order", field("e0:1;o0:2;e0:3;o0:4;e0:5;o0:6;e0").greatestTrap(player, 63), 0);
        }
    }

    /** The empty set holds the empty trap alone; all places are a trap. */
    static void promise12EmptyAndAll() {
        for (int player = 0; player <= 1; player++) {
            due("within the empty set", busy().greatestTrap(player, 0), 0);
            due("within all", busy().greatestTrap(player, 31), 31);
            due("without places", new RankRings().greatestTrap(player, 0), 0);
            due("within twelve ends", places(12).greatestTrap(player, ALL_OF_12), ALL_OF_12);
            due("within one of twelve", places(12).greatestTrap(player, 2048), 2048);
        }
    }

    /** To ask changes nothing. */
    static void promise9To12AskingChangesNothing() {
        leavesAll("pulled", Checks::busy, rings -> rings.pulled(0, 1), 3);
        leavesAll("steps", Checks::busy, rings -> rings.steps(0, 1, 3), NOT_FOUND);
        leavesAll("trap", Checks::busy, rings -> rings.trap(0, 1), 1);
        leavesAll("greatestTrap", Checks::busy, rings -> rings.greatestTrap(0, 14), 12);
    }
}
