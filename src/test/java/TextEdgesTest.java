/** Promises 20 to 23, sentence by sentence, at their edges. The comments are the document's words. */
public final class TextEdgesTest extends Checks {
    private static final int WRONG_CHARACTER = 1;
    private static final int RANK = 2;
    private static final int TWICE = 3;
    private static final int THIRTEENTH = 4;
    private static final int NOWHERE = 5;

    /** A field in 80 characters. */
    private static final String EIGHTY = "e0:0,1,2,3;o1:1,2,3,4;e2:2,3,4,5;o3:3,4,5,6;e4:4,5,6,7;o5:1,10;"
        + "e0;o1;e2;o3;e4;o5";

    /** Twelve places in 35 characters. */
    private static final String TWELVE = "e0;o1;e2;o3;e4;o5;e0;o1;e2;o3;e4;o5";

    public static void main(String[] args) throws Exception {
        runAll(TextEdgesTest.class);
    }

    private static RankRings texted(String text) {
        RankRings rings = new RankRings();
        type(rings, text);
        return rings;
    }

    private static void fault(String text, int place, int reason) {
        RankRings rings = texted(text);
        due(text + " is typed whole", rings.count(7), text.length());
        due("place of the fault of " + text, rings.fault(0), place);
        due("reason of the fault of " + text, rings.fault(1), reason);
        due("place once more", rings.fault(0), place);
        due("read " + text, rings.read(), NOT_POSSIBLE);
        due("nothing is read", rings.count(0), 0);
        due("nothing is recorded", rings.count(6), 0);
    }

    private static void good(String text) {
        reads(text, text);
    }

    private static void reads(String text, String due) {
        RankRings rings = texted(text);
        due(text + " is typed whole", rings.count(7), text.length());
        due("place of no fault of " + text, rings.fault(0), NOT_FOUND);
        due("reason of no fault of " + text, rings.fault(1), NOT_FOUND);
        int places = text.split(";").length;
        due("read " + text, rings.read(), places);
        due("places", rings.count(0), places);
        same("read " + text, told(rings), due);
        due("the text stays", rings.count(7), text.length());
    }

    // ---- promise 20

    /** "character: 32 to 126" */
    static void promise20Character() {
        for (int character = 32; character <= 126; character++) {
            due("type " + character, new RankRings().type(character), 1);
        }
        for (int character = -128; character < 32; character++) {
            due("type " + character, new RankRings().type(character), INVALID);
        }
        for (int character = 127; character <= 300; character++) {
            due("type " + character, new RankRings().type(character), INVALID);
        }
        for (int good : new int[] {32, 'e', 126}) {
            due("type " + good + " and 16 bits more", new RankRings().type(good + 65536), INVALID);
            due("type " + good + " and a sign", new RankRings().type(good + Integer.MIN_VALUE), INVALID);
        }
        for (int far : FAR) {
            due("type " + far, new RankRings().type(far), far == 32 || far == 33 || far == 64 ? 1 : INVALID);
        }
        leavesAll("type 31", Checks::busy, rings -> rings.type(31), INVALID);
        leavesAll("type 127", Checks::busyWithFault, rings -> rings.type(127), INVALID);
    }

    /** "Appends a character to the text": this one, at its end. */
    static void promise20Appends() {
        for (int character = 32; character <= 126; character++) {
            RankRings rings = new RankRings();
            rings.type(character);
            due("the first", rings.fault(0), character == 'e' || character == 'o' ? 1 : 0);
            rings = texted("e");
            rings.type(character);
            due("the second", rings.fault(0), character >= '0' && character <= '5' ? NOT_FOUND : 1);
            due("its reason", rings.fault(1), character >= '0' && character <= '5' ? NOT_FOUND
                : character >= '6' && character <= '9' ? RANK : WRONG_CHARACTER);
            rings = texted("e0");
            rings.type(character);
            due("the third", rings.fault(0), character == ':' || character == ';' ? 3 : 2);
            rings = texted("e0:");
            rings.type(character);
            due("the fourth", rings.fault(0), character == '0' ? NOT_FOUND : 3);
            due("its reason", rings.fault(1), character == '0' ? NOT_FOUND
                : character >= '1' && character <= '9' ? NOWHERE : WRONG_CHARACTER);
        }
    }

    /** "a text of at most 80 characters", "LIMIT_REACHED if it has 80 characters" */
    static void promise20Eighty() {
        RankRings rings = new RankRings();
        for (int length = 1; length <= 80; length++) {
            due("length", rings.type('e'), length);
            due("length", rings.count(7), length);
        }
        due("one more", rings.type('e'), LIMIT);
        due("one more", rings.type(32), LIMIT);
        due("one more", rings.type(126), LIMIT);
        due("length", rings.count(7), 80);
        leavesAll("one more", TextEdgesTest::full, text -> text.type('0'), LIMIT);
        due("the last of 80", texted(" ".repeat(79)).type('e'), 80);
        rings.clearText();
        due("cleared", rings.type('e'), 1);
    }

    /** A text of 80 characters that is a field, and a history and a snapshot besides. */
    private static RankRings full() {
        RankRings rings = places(2);
        rings.keep();
        rings.own(0, 1);
        type(rings, EIGHTY);
        return rings;
    }

    /** "INVALID_ARGUMENT is returned rather than ... LIMIT_REACHED" */
    static void promise20InvalidRatherThanLimit() {
        RankRings rings = texted(" ".repeat(80));
        due("31", rings.type(31), INVALID);
        due("127", rings.type(127), INVALID);
        due("-1", rings.type(-1), INVALID);
        due("32", rings.type(32), LIMIT);
    }

    /** Nothing but the text becomes otherwise. */
    static void promise20LeavesTheField() {
        RankRings rings = busy();
        String before = whole(rings);
        rings.type('x');
        same("the field", whole(rings), before);
        due("states", rings.count(6), 4);
        due("undo", rings.undo(), 3);
        due("restore", rings.restore(), 5);
    }

    // ---- promise 21

    /** "Returns the length it had": from 0 to 80. */
    static void promise21LengthItHad() {
        for (int length = 0; length <= 80; length++) {
            RankRings rings = texted("e".repeat(length));
            due("the length it had", rings.clearText(), length);
            due("the length it has", rings.count(7), 0);
            due("the length it had", rings.clearText(), 0);
        }
    }

    /** "Empties the text": nothing is left of it for what is typed then. */
    static void promise21Empties() {
        RankRings rings = texted("e0:0;o1:1");
        rings.clearText();
        due("the fault of the empty text", rings.fault(0), 0);
        due("the fault of the empty text", rings.fault(1), WRONG_CHARACTER);
        due("read", rings.read(), NOT_POSSIBLE);
        due("type", rings.type('e'), 1);
        due("it ends too early", rings.fault(0), 1);
        due("type", rings.type('0'), 2);
        due("read", rings.read(), 1);
        same("without the ways that were", told(rings), "e0");
    }

    /** Nothing but the text becomes otherwise. */
    static void promise21LeavesTheField() {
        RankRings rings = busy();
        String before = whole(rings);
        due("clearText", rings.clearText(), 11);
        same("the field", whole(rings), before);
        due("states", rings.count(6), 4);
        due("snapshot", rings.count(8), 1);
        due("undo", rings.undo(), 3);
        due("restore", rings.restore(), 5);
    }

    // ---- promise 22

    /** "what: 0: its place; 1: its reason" */
    static void promise22What() {
        leavesAll("what 0", Checks::busyWithFault, rings -> rings.fault(0), 10);
        leavesAll("what 1", Checks::busyWithFault, rings -> rings.fault(1), TWICE);
        leavesAll("what -1", Checks::busyWithFault, rings -> rings.fault(-1), INVALID);
        leavesAll("what 2", Checks::busyWithFault, rings -> rings.fault(2), INVALID);
        for (int far : FAR) {
            due("what " + far, texted("x").fault(far), INVALID);
            due("what " + far + " of a field", texted("e0").fault(far), INVALID);
        }
    }

    /** "NOT_FOUND if the text has no fault"; "INVALID_ARGUMENT is returned rather than ... NOT_FOUND" */
    static void promise22NoFault() {
        leavesAll("what 0", Checks::busy, rings -> rings.fault(0), NOT_FOUND);
        leavesAll("what 1", Checks::busy, rings -> rings.fault(1), NOT_FOUND);
        due("what 2 of a field", texted("e0").fault(2), INVALID);
        due("what -1 of a field", texted("e0").fault(-1), INVALID);
        good("e0");
        good("o5");
        good("e0:0");
        good("e0;o1");
        good("e0:0,1;o1:0,1");
        good(TWELVE);
        good(TWELVE + ":0,1,2,3,4,5,6,7,8,9,10,11");
        good(EIGHTY);
        reads("e0:1,0;o0", "e0:0,1;o0");
    }

    /** Behind a start of a text just some characters can stand; any other has a fault of reason 1 at its index. */
    private static void goesOn(String start, String characters) {
        for (char character = 32; character <= 126; character++) {
            RankRings rings = texted(start + character);
            boolean isWrong = rings.fault(0) == start.length() && rings.fault(1) == WRONG_CHARACTER;
            boolean isDue = characters.indexOf(character) < 0;
            due(start + character + " has its fault there", isWrong ? 1 : 0, isDue ? 1 : 0);
        }
    }

    /** "one or more places with ; between two: e (owner 0) or o (owner 1)" */
    static void promise22Owner() {
        goesOn("", "eo");
        goesOn("e0;", "eo");
        goesOn("e0:0;", "eo");
        goesOn("e0:10;", "eo");
        goesOn("e0;o1;", "eo");
        fault("E0", 0, WRONG_CHARACTER);
        fault("O0", 0, WRONG_CHARACTER);
        fault("e0;;", 3, WRONG_CHARACTER);
        reads("e0", "e0");
        reads("o0", "o0");
    }

    /** "a rank (a digit)" */
    static void promise22Rank() {
        goesOn("e", "0123456789");
        goesOn("o", "0123456789");
        goesOn("e0;o", "0123456789");
        for (int rank = 0; rank <= 5; rank++) {
            good("e" + rank);
            good("e0;o" + rank + ":0");
        }
    }

    /** "and perhaps : ..." or ";", and no second digit */
    static void promise22BehindRank() {
        goesOn("e0", ":;");
        goesOn("o5", ":;");
        goesOn("e0;o1", ":;");
        goesOn(EIGHTY.substring(0, 77), ":;");
        goesOn(EIGHTY.substring(0, 78), "eo");
        goesOn(EIGHTY.substring(0, 79), "0123456789");
        goesOn(TWELVE, ":;");
    }

    /** "one or more places with , between two (ways): numbers of one or two digits" */
    static void promise22Ways() {
        goesOn("e0:", "0123456789");
        goesOn("e0:0,", "0123456789");
        goesOn("e0:10,", "0123456789");
        goesOn("e0:1", "0123456789,;");
        goesOn("e0:9", "0123456789,;");
        goesOn("e0:0,1", "0123456789,;");
        goesOn("e0:10", ",;");
        goesOn("e0:99", ",;");
        goesOn("e0:0,11", ",;");
        goesOn("e0:0;e1:2,10", ",;");
    }

    /** "without 0 ahead of others" */
    static void promise22ZeroAhead() {
        goesOn("e0:0", ",;");
        goesOn("e0:1,0", ",;");
        goesOn("e0;o0:0", ",;");
        fault("e0:00", 4, WRONG_CHARACTER);
        fault("e0:01", 4, WRONG_CHARACTER);
        fault("e0;e0:01", 7, WRONG_CHARACTER);
        fault("e0:1,09", 6, WRONG_CHARACTER);
        reads("e0;e0;e0;e0;e0;e0;e0;e0;e0;e0;e0:10", "e0;e0;e0;e0;e0;e0;e0;e0;e0;e0;e0:10");
    }

    /** "the length of the text if it ends too early, as the empty text does" */
    static void promise22EndsTooEarly() {
        fault("", 0, WRONG_CHARACTER);
        fault("e", 1, WRONG_CHARACTER);
        fault("o", 1, WRONG_CHARACTER);
        fault("e0:", 3, WRONG_CHARACTER);
        fault("e0:0,", 5, WRONG_CHARACTER);
        fault("e0:10,", 6, WRONG_CHARACTER);
        fault("e0;", 3, WRONG_CHARACTER);
        fault("e0:0;", 5, WRONG_CHARACTER);
        fault("e0;o", 4, WRONG_CHARACTER);
        fault("e0;o1:", 6, WRONG_CHARACTER);
        fault(TWELVE + ":", 36, WRONG_CHARACTER);
        fault(EIGHTY.substring(0, 79), 79, WRONG_CHARACTER);
        fault(EIGHTY.substring(0, 78), 78, WRONG_CHARACTER);
        fault(EIGHTY.substring(0, 77) + ":0,", 80, WRONG_CHARACTER);
    }

    /** "2: a rank above 5 (its index)" */
    static void promise22RankAboveFive() {
        for (int rank = 6; rank <= 9; rank++) {
            fault("e" + rank, 1, RANK);
            fault("o" + rank + ":0", 1, RANK);
            fault("e5;o" + rank, 4, RANK);
            fault("e5:10,11;o" + rank, 10, RANK);
        }
        fault("e6;o7", 1, RANK);
        fault(TWELVE.substring(0, 34) + "6", 34, RANK);
        good(TWELVE.substring(0, 34) + "5");
    }

    /** "3: the first digit of a way that is told twice for its place" */
    static void promise22WayTwice() {
        fault("e0:0,0", 5, TWICE);
        fault("e0:0,1,0;o0", 7, TWICE);
        fault("e0:0,1,1;o0", 7, TWICE);
        fault("e0:0,0,0", 5, TWICE);
        fault("e0:0,1,1,0;o0", 7, TWICE);
        fault("e0;o0:1,1", 8, TWICE);
        fault("e0:10,10", 6, TWICE);
        fault("e0:10,11,10", 9, TWICE);
        fault("e0:99,99", 6, TWICE);
        fault("e0:0,1,2,3,4,5,6,7,8,9,10,11,10", 29, TWICE);
    }

    /** Twice for its place: not for two places; and the same digits are not the same way. */
    static void promise22NotTwice() {
        good("e0:0;o0:0");
        good("e0:0,1;o0:0,1");
        good("e0;e0;e0;e0;e0;e0;e0;e0;e0;e0;e0:0,1,10;e0:1,11");
        fault("e0:1,11", 3, NOWHERE);
        fault("e0:11,1", 3, NOWHERE);
        fault("e0:10,1,0", 3, NOWHERE);
        fault("e0:12,21", 3, NOWHERE);
    }

    /** "4: a ; behind the twelfth place (whatever stands behind it)" */
    static void promise22ThirteenthPlace() {
        good(TWELVE);
        fault(TWELVE + ";", 35, THIRTEENTH);
        fault(TWELVE + ";e0", 35, THIRTEENTH);
        fault(TWELVE + ";e", 35, THIRTEENTH);
        fault(TWELVE + ";;", 35, THIRTEENTH);
        fault(TWELVE + ";x", 35, THIRTEENTH);
        fault(TWELVE + ";e9:0,0", 35, THIRTEENTH);
        fault(TWELVE + ":0;e0", 37, THIRTEENTH);
        fault(TWELVE + ":0,11;", 40, THIRTEENTH);
        fault(TWELVE + ":12;e0", 38, THIRTEENTH);
        fault(TWELVE + ";e0;e0", 35, THIRTEENTH);
        fault(TWELVE.substring(3) + ";", 33, WRONG_CHARACTER);
        good(TWELVE.substring(3) + ";e0");
    }

    /** "If there is none of these: 5: the first digit of a way to a place that there is not." */
    static void promise22WayToNowhere() {
        fault("e0:1", 3, NOWHERE);
        fault("e0:0,1", 5, NOWHERE);
        fault("e0:2;o0", 3, NOWHERE);
        good("e0:1;o0");
        fault("e0;o0:2", 6, NOWHERE);
        good("e0;o0:1");
        fault("e0:10", 3, NOWHERE);
        fault("e0:99", 3, NOWHERE);
        fault("e0:0,32", 5, NOWHERE);
        fault("e0:1,2", 3, NOWHERE);
        fault("e0:0,2;o0:3", 5, NOWHERE);
        fault(TWELVE + ":12", 36, NOWHERE);
        good(TWELVE + ":11");
        fault(TWELVE.substring(3) + ":11", 33, NOWHERE);
        good(TWELVE.substring(3) + ":10");
    }

    /** "the first one from the left", of the reasons 1 to 4 */
    static void promise22FirstFromTheLeft() {
        fault("x6", 0, WRONG_CHARACTER);
        fault("e6x", 1, RANK);
        fault("e0x;o6", 2, WRONG_CHARACTER);
        fault("e6:0,0", 1, RANK);
        fault("e0:0,0;o6", 5, TWICE);
        fault("e0:0,0x", 5, TWICE);
        fault("e0:0,00", 5, TWICE);
        fault("e0:0,x,0", 5, WRONG_CHARACTER);
        fault("e0:0,0,", 5, TWICE);
        fault("e0:1,123", 7, WRONG_CHARACTER);
        fault("e0:12,123", 6, TWICE);
        fault(TWELVE + ":1,1;", 38, TWICE);
        fault(TWELVE + "x;", 35, WRONG_CHARACTER);
        fault("e6" + TWELVE.substring(2) + ";", 1, RANK);
    }

    /** "If there is none of these": 5 comes after the others, though it be farther to the left. */
    static void promise22NowhereIsTheLast() {
        fault("e0:1x", 4, WRONG_CHARACTER);
        fault("e0:1,", 5, WRONG_CHARACTER);
        fault("e0:9;o6", 6, RANK);
        fault("e0:9,9", 5, TWICE);
        fault("e0:9;o0:0,0", 10, TWICE);
        fault("e0:99" + TWELVE.substring(2) + ";", 38, THIRTEENTH);
        fault("e0:99" + TWELVE.substring(2), 3, NOWHERE);
    }

    /** The fault is that of the text as it is now, whatever it was before. */
    static void promise22TypedOneByOne() {
        RankRings rings = new RankRings();
        String text = "e0:1;o5:0,1";
        int[] places = {1, NOT_FOUND, 3, 3, 5, 6, NOT_FOUND, 8, NOT_FOUND, 10, NOT_FOUND};
        int[] reasons = {1, NOT_FOUND, 1, 5, 1, 1, NOT_FOUND, 1, NOT_FOUND, 1, NOT_FOUND};
        for (int i = 0; i < text.length(); i++) {
            rings.type(text.charAt(i));
            due("place of the fault of " + text.substring(0, i + 1), rings.fault(0), places[i]);
            due("reason of the fault of " + text.substring(0, i + 1), rings.fault(1), reasons[i]);
        }
    }

    /** Eighty characters, in which ways are as many as can be. */
    static void promise22EightyCharacters() {
        StringBuilder ways = new StringBuilder("e0:10");
        for (int way = 11; way <= 35; way++) {
            ways.append(',').append(way);
        }
        fault(ways.toString(), 3, NOWHERE);
        fault(ways.substring(0, 77) + ",10", 78, TWICE);
        fault(ways.substring(0, 77) + ",1,", 80, WRONG_CHARACTER);
        fault(ways.substring(0, 77) + ",1;", 80, WRONG_CHARACTER);
        fault(" ".repeat(80), 0, WRONG_CHARACTER);
        good(EIGHTY);
    }

    // ---- promise 23

    /** "Makes the field that of the text": nothing is left of the one that was. */
    static void promise23MakesTheField() {
        RankRings rings = busyWithTwelve();
        rings.clearText();
        type(rings, "o4:1;e2");
        due("from twelve places to two", rings.read(), 2);
        same("just these", told(rings), "o4:1;e2");
        rings.add(0, 1);
        same("no ways of an earlier place", told(rings), "o4:1;e2;e1");
        rings.clearText();
        type(rings, EIGHTY);
        due("from three to twelve", rings.read(), 12);
        same("just these", told(rings), EIGHTY);
        rings.clearText();
        type(rings, "e0:0");
        due("read", rings.read(), 1);
        due("won by 0", rings.count(2), 1);
    }

    /** "that of the text, which stays": what is changed then is not changed in the text. */
    static void promise23TextStays() {
        RankRings rings = texted("e0:0,1;o1:0");
        due("read", rings.read(), 2);
        rings.way(0, 0, 0);
        rings.own(1, 0);
        rings.rank(0, 5);
        rings.drop(1);
        due("length", rings.count(7), 11);
        due("read again", rings.read(), 2);
        same("as the text tells", told(rings), "e0:0,1;o1:0");
        type(rings, ";e3:2");
        due("read more", rings.read(), 3);
        same("as the text tells", told(rings), "e0:0,1;o1:0;e3:2");
    }

    /** "Returns how many places there are": from one to twelve. */
    static void promise23HowMany() {
        for (int places = 1; places <= 12; places++) {
            RankRings rings = texted(TWELVE.substring(0, 3 * places - 1));
            due("read", rings.read(), places);
            due("places", rings.count(0), places);
            due("states", rings.count(6), 1);
        }
    }

    private static RankRings busyWith(String text) {
        RankRings rings = busy();
        rings.clearText();
        type(rings, text);
        return rings;
    }

    /** "NOT_POSSIBLE if the text has a fault", of whatever reason; all stays as it was. */
    static void promise23Fault() {
        leavesAll("read of nothing", () -> busyWith(""), RankRings::read, NOT_POSSIBLE);
        leavesAll("read with fault 1", () -> busyWith("o0:1;x"), RankRings::read, NOT_POSSIBLE);
        leavesAll("read of a text that ends too early", () -> busyWith("o0:0;"), RankRings::read, NOT_POSSIBLE);
        leavesAll("read with fault 2", () -> busyWith("o0:1;e6"), RankRings::read, NOT_POSSIBLE);
        leavesAll("read with fault 3", () -> busyWith("o0:1;e0:1,1"), RankRings::read, NOT_POSSIBLE);
        leavesAll("read with fault 4", () -> busyWith(TWELVE + ";"), RankRings::read, NOT_POSSIBLE);
        leavesAll("read with fault 5", () -> busyWith("o0:1;e0:2"), RankRings::read, NOT_POSSIBLE);
    }

    /** To ask for a fault, and to be refused, leaves nothing in what is read next. */
    static void promise23AfterFaults() {
        RankRings rings = texted("e5:0;o4:1,0,1");
        due("fault", rings.fault(1), TWICE);
        due("read", rings.read(), NOT_POSSIBLE);
        rings.clearText();
        type(rings, "e0;o1");
        due("fault", rings.fault(1), NOT_FOUND);
        due("read", rings.read(), 2);
        same("as the text tells", told(rings), "e0;o1");
        due("won by 0", rings.count(2), 2);
    }
}
