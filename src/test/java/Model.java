import java.util.ArrayDeque;
import java.util.ArrayList;
import java.util.Deque;
import java.util.HashSet;
import java.util.List;
import java.util.Set;
import java.util.TreeSet;
import java.util.regex.Matcher;
import java.util.regex.Pattern;

/**
 * The document's promises once more, written from its words in another way than the class: winners
 * by nested fixed points, pulled regions by the definition of steps, traps by trying all sets,
 * faults of texts by a regular expression. Slow and plain; the tests compare the class with it.
 */
final class Model {
    static final int INVALID = -1;
    static final int NOT_POSSIBLE = -2;
    static final int LIMIT = -3;
    static final int NOT_FOUND = -4;

    static final class Place {
        int owner;
        int rank;
        TreeSet<Integer> ways = new TreeSet<>();

        Place(int owner, int rank) {
            this.owner = owner;
            this.rank = rank;
        }

        Place copy() {
            Place copy = new Place(owner, rank);
            copy.ways.addAll(ways);
            return copy;
        }
    }

    List<Place> places = new ArrayList<>();
    List<Place> snapshot = null;
    final Deque<List<Place>> history = new ArrayDeque<>();
    final StringBuilder text = new StringBuilder();

    static List<Place> copy(List<Place> places) {
        List<Place> copy = new ArrayList<>();
        for (Place place : places) {
            copy.add(place.copy());
        }
        return copy;
    }

    private void change() {
        history.addLast(copy(places));
        if (history.size() == 5) {
            history.removeFirst();
        }
    }

    private boolean is(int place) {
        return place >= 0 && place < places.size();
    }

    private boolean isSet(int set) {
        return set >= 0 && set < 1 << places.size();
    }

    private static boolean in(int set, int place) {
        return (set & 1 << place) != 0;
    }

    private static int bits(Iterable<Integer> members) {
        int set = 0;
        for (int member : members) {
            set += 1 << member;
        }
        return set;
    }

    // ---- the field

    int add(int owner, int rank) {
        if (owner < 0 || owner > 1 || rank < 0 || rank > 5) {
            return INVALID;
        }
        if (places.size() == 12) {
            return LIMIT;
        }
        change();
        places.add(new Place(owner, rank));
        return places.size() - 1;
    }

    int own(int place, int owner) {
        if (!is(place) || owner < 0 || owner > 1) {
            return INVALID;
        }
        change();
        int before = places.get(place).owner;
        places.get(place).owner = owner;
        return before;
    }

    int rank(int place, int rank) {
        if (!is(place) || rank < 0 || rank > 5) {
            return INVALID;
        }
        change();
        int before = places.get(place).rank;
        places.get(place).rank = rank;
        return before;
    }

    int way(int from, int to, int is) {
        if (!is(from) || !is(to) || is < 0 || is > 1) {
            return INVALID;
        }
        if (places.get(from).ways.contains(to) ? is == 1 : is == 0) {
            return NOT_POSSIBLE;
        }
        change();
        if (is == 1) {
            places.get(from).ways.add(to);
        } else {
            places.get(from).ways.remove(to);
        }
        return places.get(from).ways.size();
    }

    int drop(int place) {
        if (!is(place)) {
            return INVALID;
        }
        change();
        places.remove(place);
        for (Place other : places) {
            TreeSet<Integer> ways = new TreeSet<>();
            for (int way : other.ways) {
                if (way != place) {
                    ways.add(way > place ? way - 1 : way);
                }
            }
            other.ways = ways;
        }
        return places.size();
    }

    // ---- what there is

    int placeOf(int place, int what) {
        if (!is(place) || what < 0 || what > 5) {
            return INVALID;
        }
        Place at = places.get(place);
        if (what == 0) {
            return at.owner;
        }
        if (what == 1) {
            return at.rank;
        }
        if (what == 2) {
            return bits(at.ways);
        }
        if (what == 3) {
            Set<Integer> from = new HashSet<>();
            for (int i = 0; i < places.size(); i++) {
                if (places.get(i).ways.contains(place)) {
                    from.add(i);
                }
            }
            return bits(from);
        }
        if (what == 4) {
            return in(winsOf0(places), place) ? 0 : 1;
        }
        return at.ways.isEmpty() ? NOT_FOUND : choices()[place];
    }

    int count(int what) {
        int all = (1 << places.size()) - 1;
        switch (what) {
            case 0: return places.size();
            case 1: return places.stream().mapToInt(p -> p.ways.size()).sum();
            case 2: return winsOf0(places);
            case 3: return all - winsOf0(places);
            case 4: {
                int set = 0;
                for (int i = 0; i < places.size(); i++) {
                    set += places.get(i).ways.isEmpty() ? 1 << i : 0;
                }
                return set;
            }
            case 5: return places.stream().mapToInt(p -> p.rank).max().orElse(NOT_FOUND);
            case 6: return history.size();
            case 7: return text.length();
            case 8: return snapshot == null ? 0 : 1;
            default: return INVALID;
        }
    }

    // ---- pulled regions, traps

    /** The steps from each place, by the definition; 1000 for those from which the player cannot. */
    private int[] allSteps(int player, int set) {
        int[] steps = new int[places.size()];
        for (int i = 0; i < steps.length; i++) {
            steps[i] = in(set, i) ? 0 : 1000;
        }
        for (int n = 0; n < 20; n++) {
            for (int i = 0; i < steps.length; i++) {
                Place place = places.get(i);
                final int most = n;
                boolean comes = place.owner == player
                    ? place.ways.stream().anyMatch(way -> steps[way] <= most)
                    : !place.ways.isEmpty() && place.ways.stream().allMatch(way -> steps[way] <= most);
                if (comes && steps[i] > n + 1) {
                    steps[i] = n + 1;
                }
            }
        }
        return steps;
    }

    int pulled(int player, int set) {
        if (player < 0 || player > 1 || !isSet(set)) {
            return INVALID;
        }
        int[] steps = allSteps(player, set);
        int region = 0;
        for (int i = 0; i < steps.length; i++) {
            region += steps[i] < 1000 ? 1 << i : 0;
        }
        return region;
    }

    int steps(int player, int set, int place) {
        if (player < 0 || player > 1 || !isSet(set) || !is(place)) {
            return INVALID;
        }
        int steps = allSteps(player, set)[place];
        return steps < 1000 ? steps : NOT_FOUND;
    }

    private boolean isTrap(int player, int set) {
        for (int i = 0; i < places.size(); i++) {
            if (!in(set, i)) {
                continue;
            }
            Place place = places.get(i);
            boolean someWithin = place.ways.stream().anyMatch(way -> in(set, way));
            boolean allWithin = place.ways.stream().allMatch(way -> in(set, way));
            if (place.owner == player ? !allWithin : !someWithin && !place.ways.isEmpty()) {
                return false;
            }
        }
        return true;
    }

    int trap(int player, int set) {
        if (player < 0 || player > 1 || !isSet(set)) {
            return INVALID;
        }
        return isTrap(player, set) ? 1 : 0;
    }

    int greatestTrap(int player, int set) {
        if (player < 0 || player > 1 || !isSet(set)) {
            return INVALID;
        }
        int union = 0;
        for (int part = set; part != 0; part = part - 1 & set) {
            if ((part & ~union) != 0 && isTrap(player, part)) {
                union |= part;
            }
        }
        return union;
    }

    // ---- plays, proofs

    /**
     * The places from which the player 0 wins, as the nested fixed point of the parity game: for
     * rank 5 the least one outermost, for rank 0 the greatest one innermost.
     */
    static int winsOf0(List<Place> places) {
        return fixedPoint(places, 5, new int[6]);
    }

    private static int fixedPoint(List<Place> places, int rank, int[] sets) {
        if (rank < 0) {
            return oneStep(places, sets);
        }
        sets[rank] = rank % 2 == 0 ? (1 << places.size()) - 1 : 0;
        while (true) {
            int next = fixedPoint(places, rank - 1, sets);
            if (next == sets[rank]) {
                return next;
            }
            sets[rank] = next;
        }
    }

    private static int oneStep(List<Place> places, int[] sets) {
        int set = 0;
        for (int i = 0; i < places.size(); i++) {
            Place place = places.get(i);
            int good = 0;
            for (int way : place.ways) {
                good += in(sets[place.rank], way) ? 1 : 0;
            }
            if (place.owner == 0 ? good > 0 : good == place.ways.size()) {
                set += 1 << i;
            }
        }
        return set;
    }

    private static void leaveOneWay(Place place, int way) {
        place.ways.clear();
        place.ways.add(way);
    }

    /** Both players' choices, -1 for places without ways. */
    private int[] choices() {
        int[] choices = new int[places.size()];
        int wins = winsOf0(places);
        List<Place> settled = copy(places);
        for (int i = 0; i < choices.length; i++) {
            Place place = places.get(i);
            choices[i] = place.ways.isEmpty() ? -1 : place.ways.first();
            if (place.ways.isEmpty() || in(wins, i) != (place.owner == 0)) {
                continue;
            }
            for (int way : place.ways) {
                leaveOneWay(settled.get(i), way);
                if (winsOf0(settled) == wins) {
                    choices[i] = way;
                    break;
                }
            }
        }
        return choices;
    }

    int play(int place, int what) {
        if (!is(place) || what < 0 || what > 3) {
            return INVALID;
        }
        int[] choices = choices();
        List<Integer> met = new ArrayList<>();
        int at = place;
        while (at != -1 && !met.contains(at)) {
            met.add(at);
            at = choices[at];
        }
        if (what == 0) {
            return met.size();
        }
        if (at == -1) {
            return what == 3 ? 1 - places.get(met.get(met.size() - 1)).owner : NOT_FOUND;
        }
        if (what == 1) {
            return at;
        }
        int greatest = 0;
        for (int again : met.subList(met.indexOf(at), met.size())) {
            greatest = Math.max(greatest, places.get(again).rank);
        }
        return what == 2 ? greatest : greatest % 2;
    }

    /** By each choice of the other player that depends on the place alone: these are enough. */
    int proves(int player) {
        if (player < 0 || player > 1) {
            return INVALID;
        }
        int wins = player == 0 ? winsOf0(places) : (1 << places.size()) - 1 - winsOf0(places);
        int[] choices = choices();
        List<Place> chosen = copy(places);
        for (int i = 0; i < choices.length; i++) {
            if (in(wins, i) && chosen.get(i).owner == player && choices[i] >= 0) {
                leaveOneWay(chosen.get(i), choices[i]);
            }
        }
        for (int i = 0; i < choices.length; i++) {
            if (!in(wins, i)) {
                continue;
            }
            for (int way : chosen.get(i).ways) {
                if (!in(wins, way)) {
                    return 0;
                }
            }
            if (chosen.get(i).ways.isEmpty() && chosen.get(i).owner == player) {
                return 0;
            }
            if (chosen.get(i).rank % 2 != player && comesBackByLowRanks(chosen, i)) {
                return 0;
            }
        }
        return 1;
    }

    /** Whether there is a ring through a place on which no rank is above that of the place. */
    private static boolean comesBackByLowRanks(List<Place> places, int start) {
        Set<Integer> reached = new HashSet<>();
        Deque<Integer> open = new ArrayDeque<>(List.of(start));
        while (!open.isEmpty()) {
            for (int way : places.get(open.pop()).ways) {
                if (way == start) {
                    return true;
                }
                if (places.get(way).rank <= places.get(start).rank && reached.add(way)) {
                    open.push(way);
                }
            }
        }
        return false;
    }

    int only(int from, int to) {
        if (!is(from) || !is(to)) {
            return INVALID;
        }
        if (!places.get(from).ways.contains(to)) {
            return NOT_POSSIBLE;
        }
        List<Place> otherwise = copy(places);
        leaveOneWay(otherwise.get(from), to);
        return winsOf0(otherwise);
    }

    int littleChange(int place, int what) {
        if (!is(place) || what < 0 || what > 1) {
            return INVALID;
        }
        int[] best = null;
        boolean wins = in(winsOf0(places), place);
        for (int i = 0; i < places.size(); i++) {
            for (int rank = 0; rank <= 5; rank++) {
                int difference = Math.abs(rank - places.get(i).rank);
                if (best != null && difference >= best[2]) {
                    continue;
                }
                List<Place> otherwise = copy(places);
                otherwise.get(i).rank = rank;
                if (in(winsOf0(otherwise), place) != wins) {
                    best = new int[] {i, rank, difference};
                }
            }
        }
        return best == null ? NOT_FOUND : best[what];
    }

    // ---- snapshot, undo

    int keep() {
        snapshot = copy(places);
        return places.size();
    }

    int restore() {
        if (snapshot == null) {
            return NOT_POSSIBLE;
        }
        change();
        places = copy(snapshot);
        return places.size();
    }

    int undo() {
        if (history.isEmpty()) {
            return NOT_POSSIBLE;
        }
        places = history.removeLast();
        return history.size();
    }

    // ---- texts

    int type(int character) {
        if (character < 32 || character > 126) {
            return INVALID;
        }
        if (text.length() == 80) {
            return LIMIT;
        }
        text.append((char) character);
        return text.length();
    }

    int clearText() {
        int before = text.length();
        text.setLength(0);
        return before;
    }

    private static final String WAY = "(?:0|[1-9][0-9]?)";
    private static final String PLACE = "[eo][0-9](?::" + WAY + "(?:," + WAY + ")*)?";
    private static final Pattern FIELD = Pattern.compile(PLACE + "(?:;" + PLACE + ")*");

    private static boolean canGoOn(String start) {
        Matcher matcher = FIELD.matcher(start);
        return matcher.matches() || matcher.hitEnd();
    }

    /** Place and reason of the fault of a text, or null. */
    static int[] faultOf(String text) {
        int good = 0;
        while (good < text.length() && canGoOn(text.substring(0, good + 1))) {
            good++;
        }
        int[] fault = null;
        if (good < text.length() || !FIELD.matcher(text).matches()) {
            fault = new int[] {good, 1};
        }
        String start = text.substring(0, good);
        int placeStart = 0;
        List<int[]> ways = new ArrayList<>();
        String[] parts = start.split(";", -1);
        for (int p = 0; p < parts.length; p++) {
            String part = parts[p];
            if (p == 12) {
                fault = earlier(fault, placeStart - 1, 4);
            }
            if (part.length() > 1 && part.charAt(1) > '5') {
                fault = earlier(fault, placeStart + 1, 2);
            }
            Set<Integer> told = new HashSet<>();
            Matcher numbers = Pattern.compile("[0-9]+").matcher(part);
            for (int from = 3; from < part.length() && numbers.find(from); from = numbers.end()) {
                int number = Integer.parseInt(numbers.group());
                if (!told.add(number)) {
                    fault = earlier(fault, placeStart + numbers.start(), 3);
                }
                ways.add(new int[] {placeStart + numbers.start(), number});
            }
            placeStart += part.length() + 1;
        }
        if (fault != null) {
            return fault;
        }
        for (int[] way : ways) {
            if (way[1] >= parts.length) {
                return new int[] {way[0], 5};
            }
        }
        return null;
    }

    private static int[] earlier(int[] fault, int place, int reason) {
        return fault != null && fault[0] <= place ? fault : new int[] {place, reason};
    }

    int fault(int what) {
        if (what < 0 || what > 1) {
            return INVALID;
        }
        int[] fault = faultOf(text.toString());
        return fault == null ? NOT_FOUND : fault[what];
    }

    int read() {
        if (faultOf(text.toString()) != null) {
            return NOT_POSSIBLE;
        }
        change();
        places = new ArrayList<>();
        for (String part : text.toString().split(";")) {
            Place place = new Place(part.charAt(0) == 'e' ? 0 : 1, part.charAt(1) - '0');
            if (part.length() > 3) {
                for (String way : part.substring(3).split(",")) {
                    place.ways.add(Integer.parseInt(way));
                }
            }
            places.add(place);
        }
        return places.size();
    }
}
