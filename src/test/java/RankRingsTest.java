import java.lang.reflect.Constructor;
import java.lang.reflect.Field;
import java.lang.reflect.Method;
import java.lang.reflect.Modifier;
import java.util.Set;
import java.util.TreeSet;

/** A test or more for each promise: ordinary inputs, the edges, and wrong inputs. */
public final class RankRingsTest extends Checks {
    private static final int[] NO_PLAYERS = {Integer.MIN_VALUE, -1, 2, 32, Integer.MAX_VALUE};
    private static final int[] NO_RANKS = {Integer.MIN_VALUE, -1, 6, Integer.MAX_VALUE};

    public static void main(String[] args) throws Exception {
        runAll(RankRingsTest.class);
    }

    private static String state(RankRings rings) {
        return whole(rings) + besides(rings);
    }

    private static void unchanged(String what, RankRings rings, String before) {
        same(what + " changes nothing", state(rings), before);
    }

    // ---- the face

    static void faceIsTheDocuments() {
        Set<String> members = new TreeSet<>();
        for (Method method : RankRings.class.getDeclaredMethods()) {
            if (!Modifier.isPrivate(method.getModifiers())) {
                members.add(method.getName() + method.getParameterCount());
                due(method.getName() + " is public", Modifier.isPublic(method.getModifiers()) ? 1 : 0, 1);
                due(method.getName() + " is static", Modifier.isStatic(method.getModifiers()) ? 1 : 0, 0);
                due(method.getName() + " is of int", method.getReturnType() == int.class ? 1 : 0, 1);
            }
        }
        Set<String> methods = Set.of("add2", "own2", "rank2", "way3", "drop1", "placeOf2", "count1", "pulled2",
            "steps3", "trap2", "greatestTrap2", "play2", "proves1", "only2", "littleChange2", "keep0",
            "restore0", "undo0", "type1", "clearText0", "fault1", "read0");
        due("methods as told", members.equals(methods) ? 1 : 0, 1);
        Set<String> constants = new TreeSet<>();
        for (Field constant : RankRings.class.getDeclaredFields()) {
            if (!Modifier.isPrivate(constant.getModifiers())) {
                constants.add(constant.getName());
            }
        }
        due("constants as told", constants.equals(
            Set.of("INVALID_ARGUMENT", "NOT_POSSIBLE", "LIMIT_REACHED", "NOT_FOUND")) ? 1 : 0, 1);
        Constructor<?>[] constructors = RankRings.class.getDeclaredConstructors();
        due("constructors", constructors.length, 1);
        due("class is final", Modifier.isFinal(RankRings.class.getModifiers()) ? 1 : 0, 1);
        due("INVALID_ARGUMENT", RankRings.INVALID_ARGUMENT, INVALID);
        due("NOT_POSSIBLE", RankRings.NOT_POSSIBLE, NOT_POSSIBLE);
        due("LIMIT_REACHED", RankRings.LIMIT_REACHED, LIMIT);
        due("NOT_FOUND", RankRings.NOT_FOUND, NOT_FOUND);
    }

    // ---- the field

    static void promise1NewObject() {
        RankRings rings = new RankRings();
        for (int what = 0; what <= 8; what++) {
            due("count " + what, rings.count(what), what == 5 ? NOT_FOUND : 0);
        }
        due("place 0", rings.placeOf(0, 0), INVALID);
        due("undo", rings.undo(), NOT_POSSIBLE);
        due("restore", rings.restore(), NOT_POSSIBLE);
        due("read", rings.read(), NOT_POSSIBLE);
        RankRings other = new RankRings();
        rings.add(0, 0);
        due("another object has its own places", other.count(0), 0);
    }

    static void promise2Add() {
        RankRings rings = new RankRings();
        for (int place = 0; place < 12; place++) {
            due("add", rings.add(place % 2, place % 6), place);
        }
        for (int place = 0; place < 12; place++) {
            due("owner", rings.placeOf(place, 0), place % 2);
            due("rank", rings.placeOf(place, 1), place % 6);
            due("ways", rings.placeOf(place, 2), 0);
        }
        String before = state(rings);
        due("a thirteenth", rings.add(0, 0), LIMIT);
        due("a thirteenth", rings.add(1, 5), LIMIT);
        for (int player : NO_PLAYERS) {
            due("owner first", rings.add(player, 0), INVALID);
            due("both wrong", rings.add(player, 6), INVALID);
        }
        for (int rank : NO_RANKS) {
            due("rank first", rings.add(0, rank), INVALID);
        }
        unchanged("add", rings, before);
        rings.drop(11);
        due("room again", rings.add(1, 1), 11);
        RankRings again = field("e0:0,1;o1:0,1");
        again.drop(1);
        again.add(0, 2);
        due("no ways of a place that was", again.placeOf(1, 2), 0);
        due("no ways to a place that was", again.placeOf(1, 3), 0);
    }

    static void promise3Own() {
        RankRings rings = field("e1:0;o2");
        due("own", rings.own(0, 1), 0);
        due("own", rings.own(0, 1), 1);
        due("the same owner is a change too", rings.count(6), 3);
        due("own", rings.own(1, 0), 1);
        due("owner", rings.placeOf(0, 0), 1);
        due("owner", rings.placeOf(1, 0), 0);
        due("rank stays", rings.placeOf(0, 1), 1);
        due("ways stay", rings.placeOf(0, 2), 1);
        due("the end is lost by its owner", rings.placeOf(1, 4), 1);
        String before = state(rings);
        due("no such place", rings.own(2, 0), INVALID);
        due("no such place", rings.own(-1, 0), INVALID);
        due("no such place", rings.own(Integer.MAX_VALUE, 0), INVALID);
        due("no such place", rings.own(Integer.MIN_VALUE, 0), INVALID);
        for (int player : NO_PLAYERS) {
            due("no such owner", rings.own(0, player), INVALID);
        }
        unchanged("own", rings, before);
    }

    static void promise4Rank() {
        RankRings rings = field("e1:0;o2");
        due("rank", rings.rank(0, 0), 1);
        due("rank", rings.rank(0, 5), 0);
        due("rank", rings.rank(0, 5), 5);
        due("the same rank is a change too", rings.count(6), 4);
        due("rank", rings.placeOf(0, 1), 5);
        due("other place's rank", rings.placeOf(1, 1), 2);
        String before = state(rings);
        due("no such place", rings.rank(2, 0), INVALID);
        due("no such place", rings.rank(-1, 0), INVALID);
        for (int rank : NO_RANKS) {
            due("no such rank", rings.rank(0, rank), INVALID);
            due("no such rank and place", rings.rank(7, rank), INVALID);
        }
        unchanged("rank", rings, before);
    }

    static void promise5Way() {
        RankRings rings = field("e1;o2;e3");
        due("way", rings.way(0, 1, 1), 1);
        due("way to itself", rings.way(0, 0, 1), 2);
        due("way", rings.way(2, 0, 1), 1);
        due("ways", rings.placeOf(0, 2), 3);
        due("ways", rings.placeOf(1, 2), 0);
        due("ways", rings.placeOf(2, 2), 1);
        due("take away", rings.way(0, 1, 0), 1);
        due("ways", rings.placeOf(0, 2), 1);
        String before = state(rings);
        due("is already", rings.way(0, 0, 1), NOT_POSSIBLE);
        due("is not already", rings.way(0, 1, 0), NOT_POSSIBLE);
        due("is not already", rings.way(0, 2, 0), NOT_POSSIBLE);
        due("from", rings.way(3, 0, 1), INVALID);
        due("from", rings.way(-1, 0, 1), INVALID);
        due("to", rings.way(0, 3, 1), INVALID);
        due("to", rings.way(0, -1, 0), INVALID);
        due("to", rings.way(0, 32, 1), INVALID);
        due("is", rings.way(0, 0, 2), INVALID);
        due("is", rings.way(0, 0, -1), INVALID);
        unchanged("way", rings, before);
        RankRings full = new RankRings();
        for (int place = 0; place < 12; place++) {
            full.add(0, 0);
        }
        for (int to = 0; to < 12; to++) {
            due("ways of 11", full.way(11, to, 1), to + 1);
        }
        due("all ways of 11", full.placeOf(11, 2), 4095);
    }

    static void promise6Drop() {
        RankRings rings = field("e0:0,1,2,3;o1:3;e2:1,2;o3:0,2");
        due("drop", rings.drop(1), 3);
        due("places", rings.count(0), 3);
        due("ways of 0", rings.placeOf(0, 2), 7);
        due("ways of 1, which was 2", rings.placeOf(1, 2), 2);
        due("ways of 2, which was 3", rings.placeOf(2, 2), 3);
        due("rank of 1", rings.placeOf(1, 1), 2);
        due("rank of 2", rings.placeOf(2, 1), 3);
        due("owner of 2", rings.placeOf(2, 0), 1);
        String before = state(rings);
        due("no such place", rings.drop(3), INVALID);
        due("no such place", rings.drop(-1), INVALID);
        due("no such place", rings.drop(Integer.MIN_VALUE), INVALID);
        unchanged("drop", rings, before);
        due("drop the first", rings.drop(0), 2);
        due("ways of 0", rings.placeOf(0, 2), 1);
        due("ways of 1", rings.placeOf(1, 2), 1);
        due("drop the last", rings.drop(1), 1);
        due("ways of 0", rings.placeOf(0, 2), 1);
        due("drop the only one", rings.drop(0), 0);
        due("nothing to drop", rings.drop(0), INVALID);
        due("greatest rank", rings.count(5), NOT_FOUND);
    }

    // ---- what there is

    static void promise7PlaceOf() {
        RankRings rings = field("o1:1,2;e4:0,2;o2;e3");
        int[][] dues = {{1, 1, 6, 2, 0, 1}, {0, 4, 5, 1, 0, 0}, {1, 2, 0, 3, 0, NOT_FOUND},
            {0, 3, 0, 0, 1, NOT_FOUND}};
        for (int place = 0; place < 4; place++) {
            for (int what = 0; what <= 5; what++) {
                due("placeOf " + place + " " + what, rings.placeOf(place, what), dues[place][what]);
            }
            due("what", rings.placeOf(place, 6), INVALID);
            due("what", rings.placeOf(place, -1), INVALID);
        }
        due("no such place", rings.placeOf(4, 0), INVALID);
        due("no such place", rings.placeOf(4, 5), INVALID);
        due("no such place", rings.placeOf(-1, 5), INVALID);
    }

    static void promise7Winners() {
        due("even ring", field("o4:0").placeOf(0, 4), 0);
        due("odd ring", field("e5:0").placeOf(0, 4), 1);
        due("end of 0", field("e4").placeOf(0, 4), 1);
        due("end of 1", field("o5").placeOf(0, 4), 0);
        due("greatest rank of a ring", field("o1:1;e2:0").placeOf(0, 4), 0);
        due("greatest rank of a ring", field("e3:1;o2:0").placeOf(1, 4), 1);
        due("a rank met once is nothing", field("e5:1;o0:1").placeOf(0, 4), 0);
        due("the owner chooses", field("o0:0,1;e1:1").placeOf(0, 4), 1);
        due("the owner chooses", field("e0:0,1;e1:1").placeOf(0, 4), 0);
        due("to go where the other one ends", field("e1:0,1;o5").placeOf(0, 4), 0);
        due("rather a ring than an end", field("e0:0,1;e2").placeOf(0, 4), 0);
    }

    static void promise7Choices() {
        // Both ways of 0 go to places that the player 0 wins, but only 1 leads on: 0 itself is a lost ring.
        due("not the lowest way", field("e1:0,1;e2:0").placeOf(0, 5), 1);
        // The lowest way will do, for 1 can go on to 2.
        due("the lowest way", field("e0:1,2;e0:0,2;o5").placeOf(0, 5), 1);
        RankRings bound = field("e1:1,2;e1:0,2;o5");
        due("0 relies on 1", bound.placeOf(0, 5), 1);
        due("and 1 cannot rely on 0 then", bound.placeOf(1, 5), 2);
        due("the other one's lowest way", field("o5;o2:0,2;e0:1").placeOf(1, 5), 0);
        due("the winner's way", field("o5;o1:0,2;e0:1").placeOf(1, 5), 2);
        due("the loser's lowest way", field("e5:0,1;e5:0,1").placeOf(0, 5), 0);
        due("the loser's lowest way", field("o0:1;o0:0,1").placeOf(1, 5), 0);
        due("a single way", field("e0:1;e0:0").placeOf(1, 5), 0);
        // Both of 0 and 1 are settled for different players, in the order of the numbers.
        RankRings both = field("o1:0,1;o1:0,2;e2:2,3;o0:2");
        due("winner of 2", both.placeOf(2, 4), 0);
        due("winner of 0", both.placeOf(0, 4), 1);
        due("choice at 0", both.placeOf(0, 5), 0);
        due("choice at 1", both.placeOf(1, 5), 0);
        due("choice at 2", both.placeOf(2, 5), 2);
    }

    static void promise8Count() {
        RankRings rings = field("o1:1,2;e4:0,2;o2;e3");
        int[] dues = {4, 4, 7, 8, 12, 4, 1, 0, 0};
        for (int what = 0; what <= 8; what++) {
            due("count " + what, rings.count(what), dues[what]);
        }
        for (int what : new int[] {Integer.MIN_VALUE, -1, 9, Integer.MAX_VALUE}) {
            due("count " + what, rings.count(what), INVALID);
        }
        type(rings, "e0");
        rings.keep();
        rings.rank(3, 5);
        due("greatest rank", rings.count(5), 5);
        due("states", rings.count(6), 2);
        due("length", rings.count(7), 2);
        due("snapshot", rings.count(8), 1);
        due("greatest rank 0", field("e0").count(5), 0);
    }

    // ---- pulled regions, traps

    static void promise9Pulled() {
        RankRings rings = field("e0:1;o0:0,2;e0:2,3;o0;e0:3");
        due("nothing", rings.pulled(0, 0), 0);
        due("by 0", rings.pulled(0, 8), 4 + 8 + 16);
        due("by 1", rings.pulled(1, 8), 8 + 16);
        due("an end is not pulled", rings.pulled(0, 16), 16);
        due("all", rings.pulled(1, 31), 31);
        due("the other one's stays out", rings.pulled(1, 1), 3);
        due("the other one has all of its ways in", rings.pulled(0, 1 + 4), 1 + 2 + 4);
        for (int player : NO_PLAYERS) {
            due("no such player", rings.pulled(player, 1), INVALID);
        }
        for (int set : new int[] {32, 33, -1, Integer.MIN_VALUE, Integer.MAX_VALUE}) {
            due("no such place", rings.pulled(0, set), INVALID);
        }
        due("the empty field", new RankRings().pulled(1, 0), 0);
        due("the empty field", new RankRings().pulled(1, 1), INVALID);
    }

    static void promise10Steps() {
        RankRings rings = field("o0:1,2;e0:2,3;e0:3;o0;o0:0,4;e0:0,3");
        int[] by0 = {2, 1, 1, 0, NOT_FOUND, 1};
        for (int place = 0; place < 6; place++) {
            due("steps by 0 of " + place, rings.steps(0, 8, place), by0[place]);
        }
        int[] by1 = {2, 2, 1, 0, 3, 3};
        for (int place = 0; place < 6; place++) {
            due("steps by 1 of " + place, rings.steps(1, 8, place), by1[place]);
        }
        due("the empty set", rings.steps(0, 0, 0), NOT_FOUND);
        due("an end", rings.steps(0, 1, 3), NOT_FOUND);
        StringBuilder chain = new StringBuilder("e0");
        for (int place = 1; place < 12; place++) {
            chain.append(";o0:").append(place - 1);
        }
        due("a long way", field(chain.toString()).steps(0, 1, 11), 11);
        due("player", rings.steps(2, 8, 0), INVALID);
        due("player", rings.steps(-1, 8, 0), INVALID);
        due("set", rings.steps(0, 64, 0), INVALID);
        due("set", rings.steps(0, -8, 0), INVALID);
        due("place", rings.steps(0, 8, 6), INVALID);
        due("place", rings.steps(0, 8, -1), INVALID);
        due("place, though the set is empty", rings.steps(0, 0, 6), INVALID);
    }

    static void promise11Trap() {
        RankRings rings = field("e0:1;o0:0,2;e0:2,3;o0;e0");
        due("the empty set", rings.trap(0, 0), 1);
        due("the empty set", rings.trap(1, 0), 1);
        due("0 cannot leave, 1 may", rings.trap(0, 3), 1);
        due("1 can leave", rings.trap(1, 3), 0);
        due("0 can leave", rings.trap(0, 4), 0);
        due("1 cannot leave", rings.trap(1, 4), 1);
        due("1 must leave", rings.trap(0, 2), 0);
        due("an end of the other one", rings.trap(0, 8), 1);
        due("an end of the player", rings.trap(1, 8), 1);
        due("both ends", rings.trap(0, 24), 1);
        due("all", rings.trap(0, 31), 1);
        due("all", rings.trap(1, 31), 1);
        for (int player : NO_PLAYERS) {
            due("no such player", rings.trap(player, 0), INVALID);
        }
        for (int set : new int[] {32, -1, Integer.MIN_VALUE}) {
            due("no such place", rings.trap(0, set), INVALID);
        }
    }

    static void promise12GreatestTrap() {
        RankRings rings = field("e0:1;o0:0,2;e0:2,3;o0;e0");
        due("all", rings.greatestTrap(0, 31), 31);
        due("nothing", rings.greatestTrap(0, 0), 0);
        due("within 0 1 2 for 0", rings.greatestTrap(0, 7), 3);
        due("within 0 1 2 for 1", rings.greatestTrap(1, 7), 7);
        due("within 1 2 for 0", rings.greatestTrap(0, 6), 0);
        due("within 0 1 4 for 1", rings.greatestTrap(1, 19), 16);
        due("ends", rings.greatestTrap(0, 24), 24);
        StringBuilder chain = new StringBuilder("o0");
        for (int place = 1; place < 12; place++) {
            chain.append(";o0:").append(place - 1);
        }
        due("one by one", field(chain.toString()).greatestTrap(1, 4094), 0);
        due("two parts", field("e0:0;e0:1,2;e0;o0:3").greatestTrap(0, 11), 9);
        for (int player : NO_PLAYERS) {
            due("no such player", rings.greatestTrap(player, 0), INVALID);
        }
        for (int set : new int[] {32, -1, Integer.MIN_VALUE}) {
            due("no such place", rings.greatestTrap(0, set), INVALID);
        }
    }

    // ---- plays, proofs

    static void promise13Play() {
        RankRings rings = field("o5:1;e1:2;e4:3;o3:1;e2:5;o0");
        int[][] dues = {{4, 1, 4, 0}, {3, 1, 4, 0}, {3, 2, 4, 0}, {3, 3, 4, 0}, {2, NOT_FOUND, NOT_FOUND, 0},
            {1, NOT_FOUND, NOT_FOUND, 0}};
        for (int place = 0; place < 6; place++) {
            for (int what = 0; what <= 3; what++) {
                due("play " + place + " " + what, rings.play(place, what), dues[place][what]);
            }
        }
        due("an end of 0", field("e0").play(0, 3), 1);
        due("a ring at once", field("e3:0").play(0, 0), 1);
        due("a ring at once", field("e3:0").play(0, 1), 0);
        due("a ring at once", field("e3:0").play(0, 2), 3);
        due("a ring at once", field("e3:0").play(0, 3), 1);
        due("winner chooses well", field("e1:0,1;e2:0").play(0, 0), 2);
        due("rank 0 alone", field("e0:0").play(0, 2), 0);
        StringBuilder ring = new StringBuilder("e0:11");
        for (int place = 1; place < 12; place++) {
            ring.append(";o").append(place == 7 ? 5 : 2).append(":").append(place - 1);
        }
        due("all places", field(ring.toString()).play(3, 0), 12);
        due("all places", field(ring.toString()).play(3, 1), 3);
        due("all places", field(ring.toString()).play(3, 2), 5);
        due("what", rings.play(0, 4), INVALID);
        due("what", rings.play(0, -1), INVALID);
        due("place", rings.play(6, 0), INVALID);
        due("place", rings.play(-1, 1), INVALID);
        due("what of an end", rings.play(5, 4), INVALID);
    }

    static void promise14Proves() {
        RankRings rings = field("e1:0,1;e2:0;o1:0,2,3;e0:2");
        due("0", rings.proves(0), 1);
        due("1", rings.proves(1), 1);
        due("the empty field", new RankRings().proves(0), 1);
        due("the empty field", new RankRings().proves(1), 1);
        due("nothing won", field("e1:0").proves(0), 1);
        due("ends", field("e1;o2").proves(1), 1);
        for (int player : NO_PLAYERS) {
            due("no such player", rings.proves(player), INVALID);
        }
    }

    static void promise15Only() {
        RankRings rings = field("e1:0,1;e2:0,1;o0:0,2");
        String before = state(rings);
        due("winners", rings.count(2), 7);
        due("0 to 0", rings.only(0, 0), 2);
        due("0 to 1", rings.only(0, 1), 7);
        due("2 to 0", rings.only(2, 0), 7);
        due("no such way", rings.only(0, 2), NOT_POSSIBLE);
        due("no such way", rings.only(1, 2), NOT_POSSIBLE);
        due("from", rings.only(3, 0), INVALID);
        due("from", rings.only(-1, 0), INVALID);
        due("to", rings.only(0, 3), INVALID);
        due("to", rings.only(0, 32), INVALID);
        due("to", rings.only(0, -1), INVALID);
        unchanged("only", rings, before);
    }

    static void promise16LittleChange() {
        due("the lower rank of two", field("e3:0").littleChange(0, 1), 2);
        due("the place", field("e3:0").littleChange(0, 0), 0);
        due("no lower rank", field("e0:0").littleChange(0, 1), 1);
        due("no higher rank", field("o5:0").littleChange(0, 1), 4);
        due("an end", field("e3").littleChange(0, 0), NOT_FOUND);
        due("an end", field("e3").littleChange(0, 1), NOT_FOUND);
        RankRings far = field("e1:1;e4:0");
        due("the lowest place has a greater difference", far.littleChange(0, 0), 1);
        due("lower rank", far.littleChange(0, 1), 3);
        RankRings two = field("e4:1;e4:0");
        due("it takes a rank above", two.littleChange(1, 0), 0);
        due("it takes a rank above", two.littleChange(1, 1), 5);
        RankRings otherPlace = field("o0:1;o0:1");
        due("the place that decides", otherPlace.littleChange(0, 0), 1);
        due("its rank", otherPlace.littleChange(0, 1), 1);
        RankRings wide = field("e0:1;e0:2;e2:0");
        due("a difference of 1 at the last place", wide.littleChange(0, 0), 2);
        due("a difference of 1 at the last place", wide.littleChange(0, 1), 1);
        String before = state(wide);
        wide.littleChange(0, 1);
        due("place", wide.littleChange(3, 0), INVALID);
        due("place", wide.littleChange(-1, 0), INVALID);
        due("what", wide.littleChange(0, 2), INVALID);
        due("what", wide.littleChange(0, -1), INVALID);
        unchanged("littleChange", wide, before);
    }

    // ---- snapshot, undo

    static void promise17Keep() {
        RankRings rings = field("e0:0;o1:0,1");
        due("keep", rings.keep(), 2);
        due("keep is no change", rings.count(6), 1);
        due("snapshot", rings.count(8), 1);
        rings.drop(0);
        due("keep in its place", rings.keep(), 1);
        rings.drop(0);
        due("keep nothing", new RankRings().keep(), 0);
        due("restore", rings.restore(), 1);
        due("owner", rings.placeOf(0, 0), 1);
        due("ways", rings.placeOf(0, 2), 1);
    }

    static void promise18Restore() {
        RankRings rings = field("e0:0;o1:0,1");
        String before = state(rings);
        due("no snapshot", rings.restore(), NOT_POSSIBLE);
        unchanged("restore", rings, before);
        rings.keep();
        rings.rank(0, 5);
        rings.own(1, 0);
        rings.way(1, 1, 0);
        rings.add(0, 0);
        type(rings, "e5");
        due("winners before", rings.count(2), 0);
        due("restore", rings.restore(), 2);
        due("restore is a change", rings.count(6), 4);
        due("the text stays", rings.count(7), 2);
        due("rank", rings.placeOf(0, 1), 0);
        due("owner", rings.placeOf(1, 0), 1);
        due("ways", rings.placeOf(1, 2), 3);
        due("winners", rings.count(2), 1);
        rings.rank(0, 4);
        due("the snapshot stays", rings.restore(), 2);
        due("as it was", rings.placeOf(0, 1), 0);
        due("undo", rings.undo(), 3);
        due("before restore", rings.placeOf(0, 1), 4);
        due("the snapshot stays when undone", rings.count(8), 1);
        RankRings none = new RankRings();
        none.keep();
        none.add(0, 0);
        due("a snapshot without places", none.restore(), 0);
    }

    static void promise19Undo() {
        RankRings rings = new RankRings();
        due("nothing to undo", rings.undo(), NOT_POSSIBLE);
        for (int place = 0; place < 6; place++) {
            rings.add(0, place);
            due("states", rings.count(6), Math.min(place + 1, 4));
        }
        for (int left = 3; left >= 0; left--) {
            due("undo", rings.undo(), left);
            due("places", rings.count(0), left + 2);
            due("greatest rank", rings.count(5), left + 1);
        }
        due("the oldest are gone", rings.undo(), NOT_POSSIBLE);
        due("places", rings.count(0), 2);
        RankRings text = new RankRings();
        type(text, "e0:0");
        text.keep();
        text.read();
        text.type('x');
        text.keep();
        due("undo", text.undo(), 0);
        due("the text stays", text.count(7), 5);
        due("the snapshot stays", text.restore(), 1);
    }

    static void promise19UndoOfEachChange() {
        RankRings rings = field("e1:0,1;o2:1");
        String[] fields = new String[4];
        fields[0] = whole(rings);
        rings.own(0, 1);
        fields[1] = whole(rings);
        rings.rank(1, 5);
        fields[2] = whole(rings);
        rings.way(1, 0, 1);
        fields[3] = whole(rings);
        rings.drop(0);
        for (int i = 3; i >= 0; i--) {
            due("undo", rings.undo(), i);
            due("field " + i + " again", whole(rings).equals(fields[i]) ? 1 : 0, 1);
        }
    }

    static void promise19ErrorsAreNoChanges() {
        RankRings rings = field("e1:0,1;o2:1");
        int before = rings.count(6);
        rings.add(2, 0);
        rings.own(2, 0);
        rings.rank(0, 6);
        rings.way(0, 0, 1);
        rings.drop(2);
        rings.restore();
        rings.read();
        due("states", rings.count(6), before);
    }

    // ---- texts

    static void promise20Type() {
        RankRings rings = new RankRings();
        due("32", rings.type(32), 1);
        due("126", rings.type(126), 2);
        for (int wrong : new int[] {Integer.MIN_VALUE, -1, 0, 31, 127, 256 + 64, 65536 + 101, Integer.MAX_VALUE}) {
            due("no such character", rings.type(wrong), INVALID);
        }
        due("length", rings.count(7), 2);
        for (int length = 3; length <= 80; length++) {
            due("type", rings.type(101), length);
        }
        due("full", rings.type(101), LIMIT);
        due("full, and no such character", rings.type(127), INVALID);
        due("length", rings.count(7), 80);
        due("no change", rings.count(6), 0);
    }

    static void promise21ClearText() {
        RankRings rings = new RankRings();
        due("empty", rings.clearText(), 0);
        type(rings, "e0:0");
        due("clear", rings.clearText(), 4);
        due("length", rings.count(7), 0);
        due("empty", rings.clearText(), 0);
        due("fault", rings.fault(0), 0);
        due("type", rings.type(101), 1);
        due("no change", rings.count(6), 0);
    }

    private static void fault(String text, int place, int reason) {
        RankRings rings = new RankRings();
        type(rings, text);
        due(text + ": place of the fault", rings.fault(0), place);
        due(text + ": reason of the fault", rings.fault(1), reason);
        due(text + ": read", rings.read() == NOT_POSSIBLE ? 1 : 0, place == NOT_FOUND ? 0 : 1);
        due("what", rings.fault(2), INVALID);
        due("what", rings.fault(-1), INVALID);
    }

    static void promise22FaultOfCharacters() {
        fault("", 0, 1);
        fault("e", 1, 1);
        fault("e0:", 3, 1);
        fault("e0:0,", 5, 1);
        fault("e0;", 3, 1);
        fault("x", 0, 1);
        fault("E0", 0, 1);
        fault("0", 0, 1);
        fault(";", 0, 1);
        fault("ee", 1, 1);
        fault("e:", 1, 1);
        fault("e0 ", 2, 1);
        fault("e00", 2, 1);
        fault("e0,", 2, 1);
        fault("e0::", 3, 1);
        fault("e0:;", 3, 1);
        fault("e0:,", 3, 1);
        fault("e0:a", 3, 1);
        fault("e0:0;;", 5, 1);
        fault("e0:0:", 4, 1);
        fault("e0:0e", 4, 1);
        fault("e0:00", 4, 1);
        fault("e0:01", 4, 1);
        fault("e0:123", 5, 1);
        fault("e0:0,,", 5, 1);
        fault("e0;o1;", 6, 1);
        fault("e0 ;x", 2, 1);
    }

    static void promise22FaultOfMeaning() {
        fault("e6", 1, 2);
        fault("e9:0;o0", 1, 2);
        fault("e0;o7x", 4, 2);
        fault("ex;o7", 1, 1);
        fault("e0:0,0", 5, 3);
        fault("e0:0,1,0;e1", 7, 3);
        fault("e0:45,45", 6, 3);
        fault("e0:45,4,5,45x", 10, 3);
        fault("e0:0,0x", 5, 3);
        fault("e0:0,00", 5, 3);
        fault("e0:1,12,123", 8, 3);
        fault("e0:1,1;e6", 5, 3);
        fault("e6:1,1", 1, 2);
        fault("e0:0;e0:0", NOT_FOUND, NOT_FOUND);
        fault("e0:1", 3, 5);
        fault("e0:0,1;e0:3,2", 10, 5);
        fault("e0:0,12;e0:1", 5, 5);
        fault("e0:9;e0:1,1", 10, 3);
        fault("e0:9;e8", 6, 2);
        fault("e0:9;", 5, 1);
    }

    static void promise22FaultOfPlaces() {
        StringBuilder twelve = new StringBuilder("e0");
        for (int place = 1; place < 12; place++) {
            twelve.append(";o5");
        }
        fault(twelve.toString(), NOT_FOUND, NOT_FOUND);
        fault(twelve + ";", 35, 4);
        fault(twelve + ";e0", 35, 4);
        fault(twelve + ";;x", 35, 4);
        fault(twelve + ":0;e0", 37, 4);
        fault(twelve + ":0,11", NOT_FOUND, NOT_FOUND);
        fault(twelve + ":0,12", 38, 5);
        fault(twelve + ":;", 36, 1);
        fault(twelve + ":0,0;", 38, 3);
        fault(twelve + ":30;", 38, 4);
        fault(twelve.substring(0, 34) + "6;", 34, 2);
        fault(twelve.substring(0, 34) + ";", 34, 1);
    }

    static void promise22FaultOfALaterText() {
        RankRings rings = field("e0:1,2;e0;e0:2");
        type(rings, "e0");
        due("nothing is left of an earlier text", rings.fault(0), NOT_FOUND);
        due("read", rings.read(), 1);
        due("ways", rings.placeOf(0, 2), 0);
        rings.clearText();
        for (int i = 0; i < 40; i++) {
            due("too early", rings.fault(0), 0);
        }
        type(rings, "e0:0,0");
        for (int i = 0; i < 90; i++) {
            due("twice", rings.fault(0), 5);
        }
    }

    static void promise22FaultAtTheEnd() {
        StringBuilder text = new StringBuilder("e0:");
        for (int way = 10; way < 35; way++) {
            text.append(way).append(',');
        }
        fault(text + "40", 3, 5);
        fault(text + "4,", 80, 1);
        fault(text + "10", 78, 3);
        fault(text + "5;", 80, 1);
    }

    static void promise23Read() {
        RankRings rings = field("o3:0");
        type(rings, "e2:0,1;o0:2;e5");
        due("read", rings.read(), 3);
        due("the text stays", rings.count(7), 14);
        due("read is a change", rings.count(6), 2);
        due("read again", rings.read(), 3);
        due("read is a change", rings.count(6), 3);
        int[][] dues = {{0, 2, 3}, {1, 0, 4}, {0, 5, 0}};
        for (int place = 0; place < 3; place++) {
            for (int what = 0; what <= 2; what++) {
                due("placeOf " + place + " " + what, rings.placeOf(place, what), dues[place][what]);
            }
        }
        due("winners", rings.count(2), 1);
        rings.undo();
        rings.undo();
        due("undo", rings.placeOf(0, 2), 1);
        due("places", rings.count(0), 1);
        type(rings, "x");
        String before = state(rings);
        due("a fault", rings.read(), NOT_POSSIBLE);
        unchanged("read", rings, before);
        due("two digits", field("e0;e0;e0;e0;e0;e0;e0;e0;e0;e0;e0:10,11;e0:11").placeOf(10, 2), 3072);
    }
}
