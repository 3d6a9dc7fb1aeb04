import java.util.ArrayList;
import java.util.List;
import java.util.Random;

/** Runs of calls, the same ones each time, in which the class and the model must answer the same. */
public final class RandomRunsTest {
    private static final int[] WRONG = {Integer.MIN_VALUE, -13, -2, -1, 6, 12, 13, 31, 32, 33, 64, 4096,
        1 << 30, Integer.MAX_VALUE};

    /** What is promised of an object ends with this call. */
    private static final int CALLS = 512;

    /** As many calls as compareAll makes at most. */
    private static final int COMPARISON = 190;

    private final Random random;
    private final RankRings rings = new RankRings();
    private final Model model = new Model();
    private final List<String> calls = new ArrayList<>();

    private RandomRunsTest(long seed) {
        random = scattered(seed);
    }

    public static void main(String[] args) {
        int runs = args.length > 0 ? Integer.parseInt(args[0]) : 400;
        for (int seed = 0; seed < runs; seed++) {
            new RandomRunsTest(seed).run();
        }
        for (int seed = runs; seed < runs + runs / 2; seed++) {
            new RandomRunsTest(seed).compareField();
        }
        for (int seed = 0; seed < 10 * runs; seed++) {
            compareTexts(scattered(seed));
        }
        for (int seed = 0; seed < 3 * runs; seed++) {
            compareWithStrategies(scattered(seed));
        }
        System.out.println("random runs: as due");
    }

    /** Neighbouring seeds begin with nearly the same numbers, so they are spread first. */
    private static Random scattered(long seed) {
        return new Random((seed + 1) * 0x9E3779B97F4A7C15L);
    }

    private void run() {
        int style = random.nextInt(4);
        while (calls.size() < CALLS - COMPARISON - 90) {
            boolean changes = random.nextInt(100) < (calls.size() < 60 ? 85 : 40);
            if (changes && style == 3 && random.nextInt(3) > 0) {
                readWhole();
            } else if (changes) {
                change(style);
            } else {
                ask();
            }
        }
        compareAll();
        while (calls.size() < CALLS) {
            ask();
        }
    }

    private int place() {
        int size = model.places.size();
        return random.nextInt(30) == 0 || size == 0 ? wrong() : random.nextInt(size);
    }

    private int wrong() {
        return WRONG[random.nextInt(WRONG.length)];
    }

    private int below(int bound) {
        return random.nextInt(30) == 0 ? wrong() : random.nextInt(bound);
    }

    private int set() {
        int all = (1 << model.places.size()) - 1;
        switch (random.nextInt(12)) {
            case 0: return wrong();
            case 1: return all;
            case 2: return 0;
            case 3: return all + 1;
            case 4: return random.nextInt() & all;
            case 5: return random.nextInt() | random.nextInt() & all;
            case 6: return 1 << random.nextInt(12) & all;
            default: return (random.nextInt() | random.nextInt()) & all;
        }
    }

    private void due(String call, int answered, int due) {
        calls.add(call + " = " + due);
        if (answered != due) {
            for (String before : calls) {
                System.out.println(before);
            }
            System.out.println("the last call answered " + answered);
            System.exit(1);
        }
    }

    private void change(int style) {
        int a = place();
        int b = place();
        int c = below(6);
        int d = below(2);
        switch (random.nextInt(style == 0 ? 24 : 16)) {
            case 0: case 1: case 2:
                due("add " + d + " " + c, rings.add(d, c), model.add(d, c));
                break;
            case 3:
                due("own " + a + " " + d, rings.own(a, d), model.own(a, d));
                break;
            case 4: case 5:
                due("rank " + a + " " + c, rings.rank(a, c), model.rank(a, c));
                break;
            case 6:
                if (random.nextInt(4) == 0) {
                    due("drop " + a, rings.drop(a), model.drop(a));
                }
                break;
            case 7:
                due("keep", rings.keep(), model.keep());
                break;
            case 8:
                due("restore", rings.restore(), model.restore());
                break;
            case 9:
                due("undo", rings.undo(), model.undo());
                break;
            default: {
                int is = random.nextInt(20) == 0 ? wrong() : random.nextInt(4) == 0 ? 0 : 1;
                due("way " + a + " " + b + " " + is, rings.way(a, b, is), model.way(a, b, is));
            }
        }
        if (random.nextInt(30) == 0 && calls.size() < CALLS - 2 * COMPARISON) {
            compareAll();
        }
    }

    private void readWhole() {
        due("clearText", rings.clearText(), model.clearText());
        for (char character : someText(random).toCharArray()) {
            due("type " + (int) character, rings.type(character), model.type(character));
        }
        ask();
        due("read", rings.read(), model.read());
    }

    private void ask() {
        int a = place();
        int b = place();
        int player = below(2);
        int set = set();
        int what = random.nextInt(30) == 0 ? wrong() : random.nextInt(9);
        switch (random.nextInt(16)) {
            case 0:
                due("placeOf " + a + " " + what, rings.placeOf(a, what), model.placeOf(a, what));
                break;
            case 1:
                due("count " + what, rings.count(what), model.count(what));
                break;
            case 2:
                due("pulled " + player + " " + set, rings.pulled(player, set), model.pulled(player, set));
                break;
            case 3:
                due("steps " + player + " " + set + " " + a, rings.steps(player, set, a),
                    model.steps(player, set, a));
                break;
            case 4:
                due("trap " + player + " " + set, rings.trap(player, set), model.trap(player, set));
                break;
            case 5:
                due("greatestTrap " + player + " " + set, rings.greatestTrap(player, set),
                    model.greatestTrap(player, set));
                break;
            case 6: case 7:
                due("play " + a + " " + what % 5, rings.play(a, what % 5), model.play(a, what % 5));
                break;
            case 8:
                due("proves " + player, rings.proves(player), model.proves(player));
                break;
            case 9: case 10:
                due("only " + a + " " + b, rings.only(a, b), model.only(a, b));
                break;
            case 11:
                due("littleChange " + a + " " + what % 3, rings.littleChange(a, what % 3),
                    model.littleChange(a, what % 3));
                break;
            case 12: case 13: {
                int character = random.nextInt(10) == 0 ? wrong() : "eo0123459;:,".charAt(random.nextInt(12));
                due("type " + character, rings.type(character), model.type(character));
                break;
            }
            case 14:
                due("fault " + what % 3, rings.fault(what % 3), model.fault(what % 3));
                break;
            default:
                due("read", rings.read(), model.read());
        }
    }

    /** A field of many places with few ways each, where winners and choices are hard to find. */
    private void compareField() {
        int size = 5 + random.nextInt(8);
        int greatest = 1 + random.nextInt(5);
        int ways = 2 + random.nextInt(2);
        for (int i = 0; i < size; i++) {
            int owner = random.nextInt(2);
            int rank = random.nextInt(greatest + 1);
            due("add " + owner + " " + rank, rings.add(owner, rank), model.add(owner, rank));
        }
        for (int i = 0; i < size * ways; i++) {
            int from = i % size;
            int to = random.nextInt(size);
            due("way " + from + " " + to + " 1", rings.way(from, to, 1), model.way(from, to, 1));
        }
        compareAll();
        for (int place = 0; place < size; place++) {
            for (int what = 0; what <= 1; what++) {
                due("littleChange " + place + " " + what, rings.littleChange(place, what),
                    model.littleChange(place, what));
            }
            int to = random.nextInt(size);
            due("only " + place + " " + to, rings.only(place, to), model.only(place, to));
        }
        while (calls.size() < CALLS) {
            ask();
        }
    }

    private void compareAll() {
        for (int what = -1; what <= 9; what++) {
            due("count " + what, rings.count(what), model.count(what));
        }
        for (int place = -1; place <= model.places.size(); place++) {
            for (int what = -1; what <= 6; what++) {
                due("placeOf " + place + " " + what, rings.placeOf(place, what), model.placeOf(place, what));
            }
            for (int what = 0; what <= 3; what++) {
                due("play " + place + " " + what, rings.play(place, what), model.play(place, what));
            }
        }
        due("fault 0", rings.fault(0), model.fault(0));
        due("fault 1", rings.fault(1), model.fault(1));
    }

    // ---- texts

    /** A field as a text, mostly with a slip or two. */
    private static String someText(Random random) {
        StringBuilder text = new StringBuilder();
        int size = 1 + random.nextInt(random.nextInt(3) == 0 ? 14 : 8);
        for (int i = 0; i < size; i++) {
            text.append(i > 0 ? ";" : "").append(random.nextBoolean() ? 'e' : 'o').append(random.nextInt(6));
            int ways = random.nextInt(size > 8 ? 3 : 5);
            for (int w = 0; w < ways; w++) {
                int to = (i + w * (1 + random.nextInt(2))) % (random.nextInt(9) == 0 ? size + 1 : size);
                text.append(w == 0 ? ':' : ',').append(to);
            }
        }
        int slips = random.nextInt(3);
        for (int s = 0; s < slips && text.length() > 0; s++) {
            int at = random.nextInt(text.length());
            char character = "eo05678911,,::;; x".charAt(random.nextInt(18));
            switch (random.nextInt(4)) {
                case 0: text.setCharAt(at, character); break;
                case 1: text.insert(at, character); break;
                case 2: text.deleteCharAt(at); break;
                default: text.setLength(at);
            }
        }
        text.setLength(Math.min(text.length(), 85));
        return text.toString();
    }

    private static void compareTexts(Random random) {
        RankRings rings = new RankRings();
        Model model = new Model();
        for (char character : someText(random).toCharArray()) {
            rings.type(character);
            model.type(character);
        }
        boolean same = rings.fault(0) == model.fault(0) && rings.fault(1) == model.fault(1)
            && rings.read() == model.read() && rings.count(0) == model.count(0);
        for (int place = 0; place < model.places.size(); place++) {
            for (int what = 0; what <= 2; what++) {
                same &= rings.placeOf(place, what) == model.placeOf(place, what);
            }
        }
        if (!same) {
            System.out.println("text " + model.text + ": fault " + rings.fault(0) + " " + rings.fault(1)
                + ", due is " + model.fault(0) + " " + model.fault(1));
            System.exit(1);
        }
    }

    // ---- winners, by trying all choices that depend on the place alone

    private static void compareWithStrategies(Random random) {
        Model model = new Model();
        RankRings rings = new RankRings();
        int size = 1 + random.nextInt(5);
        for (int i = 0; i < size; i++) {
            int owner = random.nextInt(2);
            int rank = random.nextInt(6);
            model.add(owner, rank);
            rings.add(owner, rank);
        }
        for (int from = 0; from < size; from++) {
            for (int to = 0; to < size; to++) {
                if (random.nextInt(5) < 2) {
                    model.way(from, to, 1);
                    rings.way(from, to, 1);
                }
            }
        }
        int wins = bestOf0(Model.copy(model.places), 0);
        if (model.count(2) != wins || rings.count(2) != wins) {
            System.out.println("winners: model " + model.count(2) + ", class " + rings.count(2)
                + ", due is " + wins);
            System.exit(1);
        }
    }

    /** All that the player 0 wins by some choices at the places from the given one on. */
    private static int bestOf0(List<Model.Place> places, int from) {
        if (from == places.size()) {
            return wonAgainstAll(places);
        }
        Model.Place place = places.get(from);
        if (place.owner == 1 || place.ways.isEmpty()) {
            return bestOf0(places, from + 1);
        }
        int best = 0;
        for (int way : new ArrayList<>(place.ways)) {
            Model.Place all = place.copy();
            place.ways.clear();
            place.ways.add(way);
            best |= bestOf0(places, from + 1);
            place.ways = all.ways;
        }
        return best;
    }

    /** The places from which each play is won by the player 0, if all choices are the other's. */
    private static int wonAgainstAll(List<Model.Place> places) {
        int lost = 0;
        int size = places.size();
        for (int i = 0; i < size; i++) {
            Model.Place place = places.get(i);
            boolean loses = place.ways.isEmpty() ? place.owner == 0
                : place.rank % 2 == 1 && (reached(places, i, place.rank) & 1 << i) != 0;
            lost |= loses ? 1 << i : 0;
        }
        int won = 0;
        for (int i = 0; i < size; i++) {
            if (((reached(places, i, 5) | 1 << i) & lost) == 0) {
                won |= 1 << i;
            }
        }
        return won;
    }

    /** What can be reached from a place by at least one way, over places up to a rank. */
    private static int reached(List<Model.Place> places, int start, int rank) {
        int set = 0;
        for (int round = 0; round <= places.size(); round++) {
            for (int i = 0; i < places.size(); i++) {
                if (i == start || (set & 1 << i) != 0) {
                    for (int way : places.get(i).ways) {
                        set |= places.get(way).rank <= rank ? 1 << way : 0;
                    }
                }
            }
        }
        return set;
    }
}
