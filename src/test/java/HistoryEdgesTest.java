import java.util.ArrayList;
import java.util.List;
import java.util.function.Consumer;
import java.util.function.ToIntFunction;

/** Promises 17 to 19 and what the document says of changes. The comments are the document's words. */
public final class HistoryEdgesTest extends Checks {
    private static final String START = "e1:0,1;o2:1,2;e5:0";

    public static void main(String[] args) throws Exception {
        runAll(HistoryEdgesTest.class);
    }

    /** Each kind of change once: what it makes of the start, with the text "o4:0;e3". */
    private static final String[] AFTER_CHANGE = {"e1:0,1;o2:1,2;e5:0;o4", "e1:0,1;e2:1,2;e5:0", "e1:0,1;o2:1,2;e0:0",
        "e1:0,1,2;o2:1,2;e5:0", "e1:0,1;o2:1;e5:0", "e1:0;e5:0", "e2:0", "o4:0;e3", "e1:0,1;o2:1,2;e5:0;e5"};

    private static int change(RankRings rings, int kind) {
        switch (kind) {
            case 0: return rings.add(1, 4);
            case 1: return rings.own(1, 0);
            case 2: return rings.rank(2, 0);
            case 3: return rings.way(0, 2, 1);
            case 4: return rings.way(1, 2, 0);
            case 5: return rings.drop(1);
            case 6: return rings.restore();
            case 7: return rings.read();
            default: return rings.add(0, 5);
        }
    }

    /** An object with the start, the snapshot "e2:0", the text "o4:0;e3", and one state in its history. */
    private static RankRings start() {
        RankRings rings = new RankRings();
        type(rings, "e2:0");
        rings.read();
        rings.keep();
        rings.undo();
        rings.clearText();
        type(rings, START);
        rings.read();
        rings.clearText();
        type(rings, "o4:0;e3");
        return rings;
    }

    // ---- changes

    /** "The changes are the calls of add, own, rank, way, drop, restore and read that return no error." */
    static void promise19EachChangeIsRecorded() {
        for (int kind = 0; kind < AFTER_CHANGE.length; kind++) {
            RankRings rings = start();
            due("states before", rings.count(6), 1);
            due("change " + kind, change(rings, kind) < 0 ? 1 : 0, 0);
            same("change " + kind, told(rings), AFTER_CHANGE[kind]);
            due("states after change " + kind, rings.count(6), 2);
            due("undo", rings.undo(), 1);
            same("change " + kind + " undone", told(rings), START);
            due("the state is gone", rings.count(6), 1);
            same("as if it had not been", whole(rings), whole(start()));
            same("as if it had not been", besides(rings), besides(start()));
        }
    }

    /** A change that makes nothing otherwise is a change all the same. */
    static void promise19ChangesThatChangeNothing() {
        RankRings rings = field("o4:0;e3");
        due("states", rings.count(6), 1);
        rings.own(0, 1);
        due("own", rings.count(6), 2);
        rings.rank(0, 4);
        due("rank", rings.count(6), 3);
        rings.keep();
        rings.restore();
        due("restore", rings.count(6), 4);
        RankRings other = field("o4:0;e3");
        type(other, "o4:0;e3");
        other.read();
        due("read", other.count(6), 2);
        other.undo();
        other.undo();
        due("nothing", other.count(0), 0);
    }

    private static void isNoChange(String what, ToIntFunction<RankRings> call) {
        RankRings rings = start();
        call.applyAsInt(rings);
        due(what + " is no change", rings.count(6), 1);
        due(what + " is no change", rings.undo(), 0);
        due(what + " is no change", rings.count(0), 0);
    }

    /** No other calls are changes. */
    static void promise19OtherCallsAreNone() {
        isNoChange("placeOf", rings -> rings.placeOf(0, 5));
        isNoChange("count", rings -> rings.count(2));
        isNoChange("pulled", rings -> rings.pulled(0, 1));
        isNoChange("steps", rings -> rings.steps(0, 1, 0));
        isNoChange("trap", rings -> rings.trap(0, 1));
        isNoChange("greatestTrap", rings -> rings.greatestTrap(0, 1));
        isNoChange("play", rings -> rings.play(0, 0));
        isNoChange("proves", rings -> rings.proves(0));
        isNoChange("only", rings -> rings.only(0, 0));
        isNoChange("littleChange", rings -> rings.littleChange(0, 0));
        isNoChange("keep", RankRings::keep);
        isNoChange("type", rings -> rings.type('x'));
        isNoChange("clearText", RankRings::clearText);
        isNoChange("fault", rings -> rings.fault(0));
    }

    /** "A call that returns an error changes nothing": no state is recorded, and none is lost of a full history. */
    static void promise19ErrorsAreNoChanges() {
        List<ToIntFunction<RankRings>> refused = new ArrayList<>();
        refused.add(rings -> rings.add(2, 0));
        refused.add(rings -> rings.own(5, 0));
        refused.add(rings -> rings.rank(0, 6));
        refused.add(rings -> rings.way(0, 5, 1));
        refused.add(rings -> rings.drop(5));
        for (ToIntFunction<RankRings> call : refused) {
            isNoChange("refused", call);
            leavesAll("refused", Checks::busy, call, INVALID);
            leavesAll("refused", Checks::busyWithFault, call, INVALID);
        }
        leavesAll("way", Checks::busy, rings -> rings.way(0, 0, 1), NOT_POSSIBLE);
        leavesAll("read", Checks::busyWithFault, RankRings::read, NOT_POSSIBLE);
        leavesAll("add", Checks::busyWithTwelve, rings -> rings.add(0, 0), LIMIT);
        leavesAll("restore", () -> places(3), RankRings::restore, NOT_POSSIBLE);
        leavesAll("restore", () -> places(7), RankRings::restore, NOT_POSSIBLE);
    }

    // ---- the history

    /** "A history of at most 4 states is kept ... if there are 5 states then, the oldest one is dropped." */
    static void promise19FourStates() {
        for (int changes = 0; changes <= 12; changes++) {
            RankRings rings = places(changes);
            int states = Math.min(changes, 4);
            due("states after " + changes, rings.count(6), states);
            for (int left = states - 1; left >= 0; left--) {
                due("undo", rings.undo(), left);
                due("places", rings.count(0), changes - states + left);
            }
            due("no more", rings.undo(), NOT_POSSIBLE);
            due("places", rings.count(0), changes - states);
        }
    }

    /** The states come back in turn, the latest first, whatever changes they come from. */
    static void promise19LatestFirst() {
        for (int first = 0; first < AFTER_CHANGE.length; first++) {
            RankRings rings = new RankRings();
            type(rings, "e3:0;o1");
            rings.read();
            rings.keep();
            List<String> fields = new ArrayList<>();
            for (int i = 0; i < 4; i++) {
                rings.clearText();
                type(rings, "e0:0,1;o1:0,2;e" + i);
                rings.read();
                fields.add(told(rings));
                change(rings, (first + i) % AFTER_CHANGE.length);
            }
            // Each round made two states, so four are left.
            for (int i = 3; i >= 2; i--) {
                due("undo", rings.undo(), 2 * i - 3);
                same("before the change", told(rings), fields.get(i));
                due("undo", rings.undo(), 2 * i - 4);
            }
            due("no more", rings.undo(), NOT_POSSIBLE);
        }
    }

    /** What is undone makes room: three changes more, and four, and five. */
    static void promise19ChangesAfterUndo() {
        for (int undone = 1; undone <= 4; undone++) {
            for (int more = 0; more <= 5; more++) {
                RankRings rings = places(6);
                for (int i = 0; i < undone; i++) {
                    rings.undo();
                }
                for (int i = 0; i < more; i++) {
                    rings.rank(0, i);
                }
                int states = Math.min(4, 4 - undone + more);
                due("states", rings.count(6), states);
                int ranks = Math.min(states, more);
                for (int i = 0; i < ranks; i++) {
                    rings.undo();
                    due("rank", rings.placeOf(0, 1), Math.max(more - 2 - i, 0));
                }
                due("places", rings.count(0), 6 - undone);
                due("undo", rings.undo(), states - ranks - 1 >= 0 ? states - ranks - 1 : NOT_POSSIBLE);
            }
        }
    }

    /** "each change records everything before it but the text and the snapshot" */
    static void promise19ButTextAndSnapshot() {
        RankRings rings = new RankRings();
        type(rings, "e0");
        rings.read();
        rings.type(':');
        rings.type('0');
        rings.keep();
        due("undo of read", rings.undo(), 0);
        due("the text stays", rings.count(7), 4);
        due("it is still a field", rings.fault(0), NOT_FOUND);
        due("the snapshot stays", rings.count(8), 1);
        due("restore", rings.restore(), 1);
        due("undo of restore", rings.undo(), 0);
        due("the snapshot stays", rings.count(8), 1);
        due("the text stays", rings.read(), 1);
        due("as it is now", rings.placeOf(0, 2), 1);
        rings.clearText();
        due("undo of read", rings.undo(), 0);
        due("a cleared text stays cleared", rings.count(7), 0);
        rings.add(0, 0);
        rings.keep();
        rings.add(0, 0);
        rings.keep();
        rings.undo();
        due("the later snapshot stays", rings.restore(), 2);
    }

    /** "Restores the latest state of the history": owners, ranks, ways, the number of places, and who wins. */
    static void promise19WholeState() {
        for (int kind = 0; kind < AFTER_CHANGE.length; kind++) {
            RankRings rings = start();
            String before = whole(rings);
            change(rings, kind);
            RankRings notAsked = start();
            change(notAsked, kind);
            same("found anew after change " + kind, whole(rings), whole(notAsked));
            rings.undo();
            same("found anew after undo", whole(rings), before);
        }
    }

    /** "NOT_POSSIBLE if it is empty": before any change, and when all is undone. */
    static void promise19Empty() {
        leavesAll("undo of nothing", RankRings::new, RankRings::undo, NOT_POSSIBLE);
        leavesAll("undo of nothing", HistoryEdgesTest::allUndone, RankRings::undo, NOT_POSSIBLE);
        RankRings rings = places(1);
        due("undo", rings.undo(), 0);
        due("undo", rings.undo(), NOT_POSSIBLE);
        due("undo", rings.undo(), NOT_POSSIBLE);
        due("add", rings.add(0, 0), 0);
        due("states", rings.count(6), 1);
    }

    private static RankRings allUndone() {
        RankRings rings = busy();
        while (rings.undo() >= 0) {
            due("states are left", rings.count(6) < 4 ? 1 : 0, 1);
        }
        return rings;
    }

    /** undo is no change: what is undone cannot be undone. */
    static void promise19UndoIsNoChange() {
        RankRings rings = places(3);
        due("undo", rings.undo(), 2);
        due("states", rings.count(6), 2);
        due("undo", rings.undo(), 1);
        due("places", rings.count(0), 1);
    }

    /** Twelve places, all ways, come back whole. */
    static void promise19TwelvePlaces() {
        RankRings rings = places(12);
        for (int place = 0; place < 12; place++) {
            rings.way(place, 11 - place, 1);
            rings.way(11, place, place == 0 ? 0 : 1);
        }
        String before = told(rings);
        rings.drop(0);
        rings.drop(10);
        rings.type('e');
        rings.type('0');
        rings.read();
        due("one place", rings.count(0), 1);
        due("undo", rings.undo(), 3);
        due("undo", rings.undo(), 2);
        due("undo", rings.undo(), 1);
        same("as before", told(rings), before);
        rings.keep();
        rings.drop(11);
        rings.drop(0);
        due("restore", rings.restore(), 12);
        same("as before", told(rings), before);
    }

    // ---- promise 17

    /** "Returns how many places there are": from none to twelve. */
    static void promise17HowMany() {
        for (int places = 0; places <= 12; places++) {
            RankRings rings = places(places);
            due("keep", rings.keep(), places);
            due("places stay", rings.count(0), places);
            due("states stay", rings.count(6), Math.min(places, 4));
            due("there is one", rings.count(8), 1);
        }
    }

    /** "Takes a snapshot of the state, in place of the one that was." */
    static void promise17InPlaceOfTheOneThatWas() {
        RankRings rings = field("e1:0,1;o2");
        rings.keep();
        rings.way(1, 1, 1);
        due("another", rings.keep(), 2);
        rings.drop(0);
        rings.restore();
        same("the later one", told(rings), "e1:0,1;o2:1");
        rings.drop(0);
        rings.drop(0);
        due("one without places", rings.keep(), 0);
        rings.add(1, 1);
        due("restore", rings.restore(), 0);
        due("nothing", rings.count(0), 0);
    }

    private static void leavesSnapshot(String what, Consumer<RankRings> calls) {
        RankRings rings = field("e1:0,1;o2");
        rings.keep();
        calls.accept(rings);
        due(what + ": restore", rings.restore(), 2);
        same(what + ": the snapshot", told(rings), "e1:0,1;o2");
    }

    /** It is the state then, whatever becomes of the field. */
    static void promise17StaysAsItWas() {
        leavesSnapshot("own", rings -> rings.own(0, 1));
        leavesSnapshot("rank", rings -> rings.rank(1, 5));
        leavesSnapshot("way", rings -> rings.way(1, 1, 1));
        leavesSnapshot("add", rings -> rings.add(1, 1));
        leavesSnapshot("drop", rings -> rings.drop(0));
        leavesSnapshot("undo", RankRings::undo);
        leavesSnapshot("clearText", RankRings::clearText);
        leavesSnapshot("only", rings -> rings.only(0, 0));
        leavesSnapshot("read", rings -> {
            type(rings, "o5:0");
            rings.read();
        });
        leavesSnapshot("changes and restore", rings -> {
            rings.drop(1);
            rings.restore();
            rings.rank(0, 4);
        });
        leavesSnapshot("many changes", rings -> {
            for (int i = 0; i < 8; i++) {
                rings.add(0, 0);
            }
        });
    }

    // ---- promise 18

    /** "NOT_POSSIBLE if there is none", also when there are states to undo. */
    static void promise18None() {
        leavesAll("no snapshot", RankRings::new, RankRings::restore, NOT_POSSIBLE);
        leavesAll("no snapshot", () -> places(12), RankRings::restore, NOT_POSSIBLE);
        leavesAll("no snapshot", () -> field("e1:0"), RankRings::restore, NOT_POSSIBLE);
        RankRings rings = places(2);
        due("none", rings.restore(), NOT_POSSIBLE);
        rings.keep();
        due("one", rings.restore(), 2);
    }

    /** "Returns how many places there are then": from none to twelve, whatever there was before. */
    static void promise18HowMany() {
        for (int kept = 0; kept <= 12; kept++) {
            RankRings rings = places(kept);
            rings.keep();
            String before = told(rings);
            due("at once", rings.restore(), kept);
            same("as it was", told(rings), before);
            if (kept < 12) {
                rings.add(0, 0);
                due("with a place more", rings.restore(), kept);
                same("as it was", told(rings), before);
            }
            if (kept > 0) {
                rings.drop(0);
                due("with a place less", rings.restore(), kept);
                same("as it was", told(rings), before);
            }
        }
    }

    /** "the snapshot, which stays" */
    static void promise18Stays() {
        RankRings rings = field("e1:0,1;o2");
        rings.keep();
        for (int round = 0; round < 6; round++) {
            rings.rank(0, round);
            rings.own(1, 0);
            due("restore", rings.restore(), 2);
            same("again", told(rings), "e1:0,1;o2");
            due("it stays", rings.count(8), 1);
        }
        rings.rank(0, 0);
        rings.undo();
        rings.undo();
        due("it stays when undone", rings.restore(), 2);
        same("again", told(rings), "e1:0,1;o2");
    }

    /** The text is no part of it: the history, too, holds states without text. */
    static void promise18TextStays() {
        RankRings rings = new RankRings();
        type(rings, "e0");
        rings.keep();
        rings.type(':');
        rings.restore();
        due("the text stays", rings.count(7), 3);
        due("its fault", rings.fault(0), 3);
        rings.clearText();
        rings.restore();
        due("the text stays cleared", rings.count(7), 0);
    }

    /** restore is a change among four. */
    static void promise18IsAChange() {
        RankRings rings = places(3);
        rings.keep();
        for (int i = 0; i < 5; i++) {
            rings.restore();
            due("states", rings.count(6), 4);
        }
        rings.add(1, 1);
        rings.restore();
        due("places", rings.count(0), 3);
        due("undo", rings.undo(), 3);
        due("places", rings.count(0), 4);
    }

    /** "An object is used for at most 512 calls": the 512th answers as the first did. */
    static void callsUpToTheLast() {
        RankRings rings = new RankRings();
        for (int call = 1; call <= 512; call += 8) {
            int round = call / 8;
            due("add", rings.add(0, 2), 0);
            due("type", rings.type(' '), round % 4 + 1);
            due("way", rings.way(0, 0, 1), 1);
            due("choice", rings.placeOf(0, 5), 0);
            due("keep", rings.keep(), 1);
            due("drop", rings.drop(0), 0);
            due("states", rings.count(6), round == 0 ? 3 : 4);
            if (round % 4 == 3) {
                due("clearText", rings.clearText(), 4);
            } else {
                due("fault", rings.fault(0), 0);
            }
        }
    }
}
