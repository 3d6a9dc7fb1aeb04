/** Rings of ranks for two players, as the document's promises tell them. */
public final class RankRings {
    public static final int INVALID_ARGUMENT = -1;
    public static final int NOT_POSSIBLE = -2;
    public static final int LIMIT_REACHED = -3;
    public static final int NOT_FOUND = -4;

    private static final int PLACES = 12;
    private static final int RANKS = 6;
    private static final int STATES = 4;
    private static final int CHARACTERS = 80;

    private final Field field;
    private final Field[] history;
    private int states;
    private final Field snapshot;
    private boolean isKept;
    private final Text text;

    // A field in which something is otherwise, to see who would win then.
    private final Field trial;

    // Finding winners and choices is dear, so they are found once after each change.
    private boolean winnersKnown;
    private int winsOf0;
    private boolean choicesKnown;
    private final int[] choices;

    public RankRings() {
        field = new Field();
        history = new Field[STATES];
        for (int i = 0; i < STATES; i++) {
            history[i] = new Field();
        }
        snapshot = new Field();
        text = new Text();
        trial = new Field();
        choices = new int[PLACES];
    }

    // ---- the field

    public int add(int owner, int rank) {
        if (!isPlayer(owner) || !isRank(rank)) {
            return INVALID_ARGUMENT;
        }
        if (field.size >= PLACES) {
            return LIMIT_REACHED;
        }
        recordState();
        field.append(owner, rank);
        return field.size - 1;
    }

    public int own(int place, int owner) {
        if (!field.has(place) || !isPlayer(owner)) {
            return INVALID_ARGUMENT;
        }
        recordState();
        int before = field.owners[place];
        field.owners[place] = owner;
        return before;
    }

    public int rank(int place, int rank) {
        if (!field.has(place) || !isRank(rank)) {
            return INVALID_ARGUMENT;
        }
        recordState();
        int before = field.ranks[place];
        field.ranks[place] = rank;
        return before;
    }

    public int way(int from, int to, int is) {
        if (!field.has(from) || !field.has(to) || is < 0 || is > 1) {
            return INVALID_ARGUMENT;
        }
        if (contains(field.ways[from], to) == (is == 1)) {
            return NOT_POSSIBLE;
        }
        recordState();
        field.ways[from] ^= 1 << to;
        return Integer.bitCount(field.ways[from]);
    }

    public int drop(int place) {
        if (!field.has(place)) {
            return INVALID_ARGUMENT;
        }
        recordState();
        field.remove(place);
        return field.size;
    }

    // ---- what there is

    public int placeOf(int place, int what) {
        if (!field.has(place)) {
            return INVALID_ARGUMENT;
        }
        switch (what) {
            case 0:
                return field.owners[place];
            case 1:
                return field.ranks[place];
            case 2:
                return field.ways[place];
            case 3:
                return field.waysTo(place);
            case 4:
                findWinners();
                return winnerFrom(place);
            case 5:
                findChoices();
                return choices[place];
            default:
                return INVALID_ARGUMENT;
        }
    }

    public int count(int what) {
        switch (what) {
            case 0:
                return field.size;
            case 1:
                return field.numberOfWays();
            case 2:
                findWinners();
                return winsOf(0);
            case 3:
                findWinners();
                return winsOf(1);
            case 4:
                return field.endsOf(0) | field.endsOf(1);
            case 5:
                return field.size == 0 ? NOT_FOUND : field.greatestRank();
            case 6:
                return states;
            case 7:
                return text.length;
            case 8:
                return isKept ? 1 : 0;
            default:
                return INVALID_ARGUMENT;
        }
    }

    // ---- pulled regions, traps

    public int pulled(int player, int set) {
        if (!isPlayer(player) || !field.hasAll(set)) {
            return INVALID_ARGUMENT;
        }
        return Solver.pull(field, player, set, field.all());
    }

    public int steps(int player, int set, int place) {
        if (!isPlayer(player) || !field.hasAll(set) || !field.has(place)) {
            return INVALID_ARGUMENT;
        }
        int region = set;
        for (int step = 0; step < PLACES; step++) {
            if (contains(region, place)) {
                return step;
            }
            region = Solver.pullOnce(field, player, region, field.all());
        }
        return NOT_FOUND;
    }

    public int trap(int player, int set) {
        if (!isPlayer(player) || !field.hasAll(set)) {
            return INVALID_ARGUMENT;
        }
        return Solver.held(field, player, set) == set ? 1 : 0;
    }

    public int greatestTrap(int player, int set) {
        if (!isPlayer(player) || !field.hasAll(set)) {
            return INVALID_ARGUMENT;
        }
        int rest = set;
        // Each round but the last drops a place, so there are enough of them.
        for (int round = 0; round < PLACES; round++) {
            rest = Solver.held(field, player, rest);
        }
        return rest;
    }

    // ---- plays, proofs

    public int play(int place, int what) {
        if (!field.has(place) || what < 0 || what > 3) {
            return INVALID_ARGUMENT;
        }
        findChoices();
        int met = 0;
        int last = place;
        int next = place;
        for (int i = 0; i < PLACES && field.has(next) && !contains(met, next); i++) {
            met |= 1 << next;
            last = next;
            next = choices[next];
        }
        if (what == 0) {
            return Integer.bitCount(met);
        }
        if (!field.has(next)) {
            return what == 3 ? 1 - field.owners[last] : NOT_FOUND;
        }
        if (what == 1) {
            return next;
        }
        int greatest = greatestRankOfRing(next);
        return what == 2 ? greatest : greatest % 2;
    }

    public int proves(int player) {
        if (!isPlayer(player)) {
            return INVALID_ARGUMENT;
        }
        findChoices();
        int wins = winsOf(player);
        trial.copyFrom(field);
        for (int place = 0; place < field.size; place++) {
            if (contains(wins, place) && field.owners[place] == player && field.has(choices[place])) {
                trial.ways[place] = 1 << choices[place];
            }
        }
        for (int place = 0; place < field.size; place++) {
            if (contains(wins, place) && (trial.ways[place] & ~wins) != 0) {
                return 0;
            }
        }
        int proved = player == 0 ? Solver.winsOf0(trial) : trial.all() & ~Solver.winsOf0(trial);
        return (wins & ~proved) == 0 ? 1 : 0;
    }

    public int only(int from, int to) {
        if (!field.has(from) || !field.has(to)) {
            return INVALID_ARGUMENT;
        }
        if (!contains(field.ways[from], to)) {
            return NOT_POSSIBLE;
        }
        trial.copyFrom(field);
        trial.ways[from] = 1 << to;
        return Solver.winsOf0(trial);
    }

    public int littleChange(int place, int what) {
        if (!field.has(place) || what < 0 || what > 1) {
            return INVALID_ARGUMENT;
        }
        findWinners();
        trial.copyFrom(field);
        for (int difference = 1; difference < RANKS; difference++) {
            for (int changed = 0; changed < field.size; changed++) {
                int lower = field.ranks[changed] - difference;
                int higher = field.ranks[changed] + difference;
                if (turnsWinner(place, changed, lower)) {
                    return what == 0 ? changed : lower;
                }
                if (turnsWinner(place, changed, higher)) {
                    return what == 0 ? changed : higher;
                }
            }
        }
        return NOT_FOUND;
    }

    // ---- snapshot, undo

    public int keep() {
        snapshot.copyFrom(field);
        isKept = true;
        return field.size;
    }

    public int restore() {
        if (!isKept) {
            return NOT_POSSIBLE;
        }
        recordState();
        field.copyFrom(snapshot);
        return field.size;
    }

    public int undo() {
        if (states <= 0 || states > STATES) {
            return NOT_POSSIBLE;
        }
        states--;
        field.copyFrom(history[states]);
        forgetFindings();
        return states;
    }

    // ---- texts

    public int type(int character) {
        if (character < 32 || character > 126) {
            return INVALID_ARGUMENT;
        }
        if (text.length >= CHARACTERS) {
            return LIMIT_REACHED;
        }
        text.append((char) character);
        return text.length;
    }

    public int clearText() {
        int before = text.length;
        text.length = 0;
        return before;
    }

    public int fault(int what) {
        if (what < 0 || what > 1) {
            return INVALID_ARGUMENT;
        }
        if (text.isField()) {
            return NOT_FOUND;
        }
        return what == 0 ? text.faultIndex : text.faultReason;
    }

    public int read() {
        if (!text.isField()) {
            return NOT_POSSIBLE;
        }
        recordState();
        field.copyFrom(text.told);
        return field.size;
    }

    // ---- what several calls need

    private static boolean isPlayer(int player) {
        return player == 0 || player == 1;
    }

    private static boolean isRank(int rank) {
        return rank >= 0 && rank < RANKS;
    }

    private static boolean contains(int set, int place) {
        return (set >> place & 1) == 1;
    }

    /** Puts the field into the history; each change calls this before it changes anything. */
    private void recordState() {
        if (states >= STATES) {
            dropOldestState();
        }
        history[states].copyFrom(field);
        states++;
        forgetFindings();
    }

    private void dropOldestState() {
        Field oldest = history[0];
        for (int i = 1; i < STATES; i++) {
            history[i - 1] = history[i];
        }
        history[STATES - 1] = oldest;
        states = STATES - 1;
    }

    private void forgetFindings() {
        winnersKnown = false;
        choicesKnown = false;
    }

    /** Who asks winsOf or winnerFrom calls this before. */
    private void findWinners() {
        if (!winnersKnown) {
            winsOf0 = Solver.winsOf0(field);
            winnersKnown = true;
        }
    }

    /** The places from which a player wins. */
    private int winsOf(int player) {
        return player == 0 ? winsOf0 : field.all() & ~winsOf0;
    }

    private int winnerFrom(int place) {
        return contains(winsOf0, place) ? 0 : 1;
    }

    /** Finds the winners and both players' choices; that of a place without ways is NOT_FOUND. */
    private void findChoices() {
        if (choicesKnown) {
            return;
        }
        findWinners();
        trial.copyFrom(field);
        for (int place = 0; place < field.size; place++) {
            int ways = field.ways[place];
            if (ways == 0) {
                choices[place] = NOT_FOUND;
            } else if (field.owners[place] == winnerFrom(place)) {
                choices[place] = settle(place);
            } else {
                choices[place] = Integer.numberOfTrailingZeros(ways);
            }
        }
        choicesKnown = true;
    }

    /** Leaves the trial field just the lowest way of a place with which all are won as before. */
    private int settle(int place) {
        int ways = field.ways[place];
        for (int to = 0; to < field.size; to++) {
            // A way to a place that the other player wins gives this place away.
            if (contains(ways, to) && winnerFrom(to) == winnerFrom(place)) {
                trial.ways[place] = 1 << to;
                if (Solver.winsOf0(trial) == winsOf(0)) {
                    return to;
                }
            }
        }
        return NOT_FOUND;
    }

    /** The greatest rank of the places that a play by choices comes to from a place to itself. */
    private int greatestRankOfRing(int start) {
        int greatest = 0;
        int place = start;
        for (int i = 0; i < PLACES && field.has(place); i++) {
            greatest = Math.max(greatest, field.ranks[place]);
            place = choices[place];
            if (place == start) {
                return greatest;
            }
        }
        return greatest;
    }

    /** Tells whether a place gets another winner by another rank of a place; the trial field stays. */
    private boolean turnsWinner(int place, int changed, int rank) {
        if (!isRank(rank)) {
            return false;
        }
        trial.ranks[changed] = rank;
        int wins = Solver.winsOf0(trial);
        trial.ranks[changed] = field.ranks[changed];
        return contains(wins, place) != contains(winsOf(0), place);
    }

    /** Places with owners, ranks and ways (those of a place as a set). */
    private static final class Field {
        final int[] owners;
        final int[] ranks;
        final int[] ways;
        int size;

        Field() {
            owners = new int[PLACES];
            ranks = new int[PLACES];
            ways = new int[PLACES];
        }

        boolean has(int place) {
            return place >= 0 && place < size && place < PLACES;
        }

        boolean hasAll(int set) {
            return (set & ~all()) == 0;
        }

        int all() {
            return (1 << size) - 1;
        }

        int waysTo(int place) {
            int set = 0;
            for (int from = 0; from < size; from++) {
                if (contains(ways[from], place)) {
                    set |= 1 << from;
                }
            }
            return set;
        }

        int numberOfWays() {
            int number = 0;
            for (int place = 0; place < size; place++) {
                number += Integer.bitCount(ways[place]);
            }
            return number;
        }

        int greatestRank() {
            int greatest = 0;
            for (int place = 0; place < size; place++) {
                greatest = Math.max(greatest, ranks[place]);
            }
            return greatest;
        }

        /** The places without ways that belong to a player. */
        int endsOf(int player) {
            int set = 0;
            for (int place = 0; place < size; place++) {
                if (ways[place] == 0 && owners[place] == player) {
                    set |= 1 << place;
                }
            }
            return set;
        }

        int ranked(int rank) {
            int set = 0;
            for (int place = 0; place < size; place++) {
                if (ranks[place] == rank) {
                    set |= 1 << place;
                }
            }
            return set;
        }

        void append(int owner, int rank) {
            if (size < PLACES) {
                owners[size] = owner;
                ranks[size] = rank;
                ways[size] = 0;
                size++;
            }
        }

        void remove(int place) {
            for (int i = place; i + 1 < size; i++) {
                owners[i] = owners[i + 1];
                ranks[i] = ranks[i + 1];
                ways[i] = ways[i + 1];
            }
            size--;
            int below = (1 << place) - 1;
            for (int i = 0; i < size; i++) {
                ways[i] = ways[i] & below | ways[i] >> 1 & ~below;
            }
        }

        void copyFrom(Field other) {
            size = other.size;
            for (int i = 0; i < size; i++) {
                owners[i] = other.owners[i];
                ranks[i] = other.ranks[i];
                ways[i] = other.ways[i];
            }
        }
    }

    /** Finds what players can force in a field. */
    private static final class Solver {

        private Solver() {
        }

        /** The places from which the player 0 wins. */
        static int winsOf0(Field field) {
            int all = field.all();
            int lostBy1 = pull(field, 0, field.endsOf(1), all);
            int lostBy0 = pull(field, 1, field.endsOf(0), all);
            return lostBy1 | winsWithin(field, 0, all & ~lostBy1 & ~lostBy0, RANKS - 1);
        }

        /**
         * The places of an arena from which a player wins. Each place of the arena has a way within
         * it, no play leaves it, and no rank in it is above the top one.
         */
        private static int winsWithin(Field field, int player, int arena, int top) {
            if (arena == 0 || top < 0) {
                return 0;
            }
            int ranked = field.ranked(top);
            int friend = top % 2;
            int enemy = 1 - friend;
            // What is not yet known to be won by the enemy.
            int rest = arena;
            // Each round but the last takes a place from the rest.
            for (int round = 0; round <= PLACES; round++) {
                if ((rest & ranked) == 0) {
                    rest = winsWithin(field, friend, rest, top - 1);
                    break;
                }
                int below = rest & ~pull(field, friend, rest & ranked, rest);
                int lost = winsWithin(field, enemy, below, top - 1);
                if (lost == 0) {
                    break;
                }
                rest &= ~pull(field, enemy, lost, rest);
            }
            return player == friend ? rest : arena & ~rest;
        }

        /** What a player can pull into a set, if there were the places of the arena alone. */
        static int pull(Field field, int player, int set, int arena) {
            int region = set;
            for (int round = 0; round < PLACES; round++) {
                int wider = pullOnce(field, player, region, arena);
                if (wider == region) {
                    break;
                }
                region = wider;
            }
            return region;
        }

        /** A region with the places from which a player can force a play into it by one step. */
        static int pullOnce(Field field, int player, int region, int arena) {
            int wider = region;
            for (int place = 0; place < field.size; place++) {
                if ((arena & ~region & 1 << place) != 0) {
                    int ways = field.ways[place] & arena;
                    int into = ways & region;
                    if (into != 0 && (field.owners[place] == player || into == ways)) {
                        wider |= 1 << place;
                    }
                }
            }
            return wider;
        }

        /** The places of a set that do not keep it from being a trap for a player. */
        static int held(Field field, int player, int set) {
            int held = 0;
            for (int place = 0; place < field.size; place++) {
                if (contains(set, place)) {
                    int ways = field.ways[place];
                    int within = ways & set;
                    if (within == ways || within != 0 && field.owners[place] != player) {
                        held |= 1 << place;
                    }
                }
            }
            return held;
        }
    }

    /** A text, and what it tells as a field. */
    private static final class Text {
        private static final int WRONG_CHARACTER = 1;
        private static final int RANK_TOO_GREAT = 2;
        private static final int WAY_TWICE = 3;
        private static final int TOO_MANY_PLACES = 4;
        private static final int WAY_TO_NOWHERE = 5;

        private final char[] characters;
        int length;

        // What isField found when it was called last.
        final Field told;
        int faultIndex;
        int faultReason;

        private int at;
        private final int[] wayNumbers;
        private final int[] wayIndexes;
        private int wayCount;

        Text() {
            characters = new char[CHARACTERS];
            told = new Field();
            wayNumbers = new int[CHARACTERS];
            wayIndexes = new int[CHARACTERS];
        }

        void append(char character) {
            if (length < CHARACTERS) {
                characters[length] = character;
                length++;
            }
        }

        /** Looks through the text; leaves its field, or else its fault. */
        boolean isField() {
            at = 0;
            wayCount = 0;
            told.size = 0;
            return lookAtPlaces() && lookForPlacesOfWays();
        }

        private boolean lookAtPlaces() {
            for (int place = 0; place < PLACES; place++) {
                if (!lookAtPlace()) {
                    return false;
                }
                if (at >= length) {
                    return true;
                }
                if (character() != ';') {
                    return blame(at, WRONG_CHARACTER);
                }
                at++;
            }
            return blame(at - 1, TOO_MANY_PLACES);
        }

        private boolean lookAtPlace() {
            int owner = character() == 'e' ? 0 : 1;
            if (owner == 1 && character() != 'o') {
                return blame(at, WRONG_CHARACTER);
            }
            at++;
            int rank = digit();
            if (rank < 0) {
                return blame(at, WRONG_CHARACTER);
            }
            if (!isRank(rank)) {
                return blame(at, RANK_TOO_GREAT);
            }
            at++;
            told.append(owner, rank);
            if (character() != ':') {
                return true;
            }
            at++;
            return lookAtWays();
        }

        private boolean lookAtWays() {
            int firstOfPlace = wayCount;
            for (int i = 0; i < CHARACTERS; i++) {
                int start = at;
                int number = digit();
                if (number < 0) {
                    return blame(at, WRONG_CHARACTER);
                }
                at++;
                if (number > 0 && digit() >= 0) {
                    number = number * 10 + digit();
                    at++;
                }
                if (isToldSince(firstOfPlace, number)) {
                    return blame(start, WAY_TWICE);
                }
                tellWay(start, number);
                if (character() != ',') {
                    break;
                }
                at++;
            }
            return true;
        }

        private boolean isToldSince(int first, int number) {
            for (int i = first; i < wayCount; i++) {
                if (wayNumbers[i] == number) {
                    return true;
                }
            }
            return false;
        }

        private void tellWay(int index, int number) {
            if (wayCount < CHARACTERS) {
                wayIndexes[wayCount] = index;
                wayNumbers[wayCount] = number;
                wayCount++;
            }
            int place = told.size - 1;
            if (told.has(place) && number < PLACES) {
                told.ways[place] |= 1 << number;
            }
        }

        private boolean lookForPlacesOfWays() {
            for (int i = 0; i < wayCount; i++) {
                if (!told.has(wayNumbers[i])) {
                    return blame(wayIndexes[i], WAY_TO_NOWHERE);
                }
            }
            return true;
        }

        private boolean blame(int index, int reason) {
            faultIndex = index;
            faultReason = reason;
            return false;
        }

        /** The character that is looked at, or 0 (which no text holds) behind the last one. */
        private char character() {
            return at >= 0 && at < length && at < CHARACTERS ? characters[at] : (char) 0;
        }

        private int digit() {
            char character = character();
            return character >= '0' && character <= '9' ? character - '0' : -1;
        }
    }
}
