import java.lang.reflect.Method;
import java.lang.reflect.Modifier;
import java.util.Arrays;
import java.util.Comparator;
import java.util.function.Function;
import java.util.function.Supplier;
import java.util.function.ToIntFunction;

/** What the tests of promises share. A test is a static method without parameters, but for main. */
abstract class Checks {
    static final int INVALID = -1;
    static final int NOT_POSSIBLE = -2;
    static final int LIMIT = -3;
    static final int NOT_FOUND = -4;

    /** Some of them would be a player, a rank, a place or a member of a set if only some bits were looked at. */
    static final int[] FAR = {Integer.MIN_VALUE, Integer.MIN_VALUE + 1, -4096, -256, -32, -2, 32, 33, 64, 256,
        4096, 65536, 1 << 30, Integer.MAX_VALUE - 1, Integer.MAX_VALUE};

    private static int asDue = 0;
    private static int notAsDue = 0;

    static void runAll(Class<?> tests) throws Exception {
        Method[] methods = tests.getDeclaredMethods();
        Arrays.sort(methods, Comparator.comparing(Method::getName));
        for (Method method : methods) {
            if (isTest(method)) {
                int before = asDue + notAsDue;
                method.setAccessible(true);
                method.invoke(null);
                due(method.getName() + " checks something", asDue + notAsDue > before ? 1 : 0, 1);
            }
        }
        System.out.println(tests.getSimpleName() + ": " + asDue + " checks as due, " + notAsDue + " not");
        if (notAsDue > 0 || asDue == 0) {
            System.exit(1);
        }
    }

    private static boolean isTest(Method method) {
        return Modifier.isStatic(method.getModifiers()) && !Modifier.isPrivate(method.getModifiers())
            && method.getParameterCount() == 0 && method.getReturnType() == void.class;
    }

    static void due(String what, int got, int due) {
        if (got == due) {
            asDue++;
        } else {
            notAsDue++;
            System.out.println(what + ": " + got + ", due is " + due);
        }
    }

    static void same(String what, String got, String due) {
        if (got.equals(due)) {
            asDue++;
        } else {
            notAsDue++;
            System.out.println(what + ": " + got + ", due is " + due);
        }
    }

    static void type(RankRings rings, String text) {
        for (char character : text.toCharArray()) {
            rings.type(character);
        }
    }

    /** An object that has read a text; its history holds one state, and its text is empty. */
    static RankRings field(String text) {
        RankRings rings = new RankRings();
        type(rings, text);
        due("reading " + text, rings.read() < 0 ? 1 : 0, 0);
        rings.clearText();
        return rings;
    }

    /** An object with as many places, without ways: owners and ranks in turn. */
    static RankRings places(int number) {
        RankRings rings = new RankRings();
        for (int place = 0; place < number; place++) {
            rings.add(place % 2, place % 6);
        }
        return rings;
    }

    // ---- what an object is, as far as calls can tell

    /** Owners, ranks and ways: 37 calls at most. */
    static String told(RankRings rings) {
        StringBuilder told = new StringBuilder();
        int places = rings.count(0);
        for (int place = 0; place < places; place++) {
            told.append(rings.placeOf(place, 0) == 0 ? 'e' : 'o').append(rings.placeOf(place, 1));
            char before = ':';
            for (int to = 0; to < places; to++) {
                if ((rings.placeOf(place, 2) & 1 << to) != 0) {
                    told.append(before).append(to);
                    before = ',';
                }
            }
            told.append(place + 1 < places ? ";" : "");
        }
        return told.toString();
    }

    /** All that can be asked about the field without a further argument. */
    static String whole(RankRings rings) {
        StringBuilder state = new StringBuilder();
        for (int what = 0; what <= 5; what++) {
            state.append(rings.count(what)).append(' ');
        }
        int places = rings.count(0);
        for (int place = 0; place < places; place++) {
            for (int what = 0; what <= 5; what++) {
                state.append(rings.placeOf(place, what)).append(' ');
            }
            for (int what = 0; what <= 3; what++) {
                state.append(rings.play(place, what)).append(' ');
            }
        }
        return state.toString();
    }

    /** The numbers of states, of characters and of snapshots, and the fault of the text. */
    static String besides(RankRings rings) {
        StringBuilder state = new StringBuilder();
        for (int what = 6; what <= 8; what++) {
            state.append(rings.count(what)).append(' ');
        }
        return state.append(rings.fault(0)).append(' ').append(rings.fault(1)).toString();
    }

    /** The states of the history, the latest first; they are gone then. */
    static String history(RankRings rings) {
        StringBuilder states = new StringBuilder();
        for (int left = rings.undo(); left >= 0; left = rings.undo()) {
            states.append(left).append(' ').append(told(rings)).append(" | ");
        }
        return states.toString();
    }

    static String snapshot(RankRings rings) {
        return rings.restore() + " " + told(rings);
    }

    /** The field that the text tells, and what comes of the text if more is typed. */
    static String text(RankRings rings) {
        StringBuilder answers = new StringBuilder();
        answers.append(rings.read()).append(' ').append(told(rings)).append(" | ");
        for (char more : ":0,1;e0".toCharArray()) {
            answers.append(rings.type(more)).append(' ').append(rings.fault(0)).append(' ');
            answers.append(rings.fault(1)).append(' ');
        }
        return answers.append(rings.clearText()).append(' ').append(rings.count(7)).toString();
    }

    // ---- calls that change nothing

    /** Checks an answer, and that the call has left everything as it was. */
    static void leavesAll(String what, Supplier<RankRings> made, ToIntFunction<RankRings> call, int due) {
        leaves(what, "field", made, call, due, Checks::whole);
        leaves(what, "besides", made, call, due, Checks::besides);
        leaves(what, "history", made, call, due, Checks::history);
        leaves(what, "snapshot", made, call, due, Checks::snapshot);
        leaves(what, "text", made, call, due, Checks::text);
    }

    private static void leaves(String what, String part, Supplier<RankRings> made, ToIntFunction<RankRings> call,
            int due, Function<RankRings, String> look) {
        RankRings called = made.get();
        due(what, call.applyAsInt(called), due);
        same(part + " after " + what, look.apply(called), look.apply(made.get()));
    }

    /** An object with a full history, a snapshot, a text that is a field, and winners that were asked for. */
    static RankRings busy() {
        RankRings rings = field("e1:0,1;e2:0;o1:0,2,3;e0:2;o3");
        rings.keep();
        rings.rank(0, 3);
        rings.own(1, 1);
        rings.way(3, 3, 1);
        rings.way(0, 1, 0);
        type(rings, "o4:1;e2:0,1");
        rings.count(2);
        rings.placeOf(0, 5);
        return rings;
    }

    /** The same with a text that is no field, and with less in the history. */
    static RankRings busyWithFault() {
        RankRings rings = field("o1:0,1;e4:0;e0");
        rings.keep();
        rings.own(0, 0);
        type(rings, "o4:1;e2:0,0");
        return rings;
    }

    /** The same with twelve places. */
    static RankRings busyWithTwelve() {
        RankRings rings = field("e0:1;o1:2;e2:3;o3:4;e4:5;o5:6;e0:7;o1:8;e2:9;o3:10;e4:11;o5:0");
        rings.way(11, 11, 1);
        rings.keep();
        rings.rank(4, 0);
        type(rings, "o4:0");
        return rings;
    }
}
