/** A tribunal of misplaced commas; ../shared/DOC.md says what each call promises. */
public final class CommaCourt {
    public static final int INVALID_ARGUMENT = -1;
    public static final int NOT_POSSIBLE = -2;
    public static final int LIMIT_REACHED = -3;
    public static final int NOT_FOUND = -4;
    public static final int BALANCE = 0, HEAVY = 1;

    private static final int KINDS = 6;
    private static final int SETTINGS = 2;
    private static final int MOST_WORDS = 12;
    private static final int MOST_EDITIONS = 4;
    private static final int MOST_RULINGS = 10;
    private static final int MOST_SIGNS = 60;
    private static final int MOST_STATES = 4;

    private static final int NONE = -1;
    private static final int STAYED = 1, NOT_LESS = 2, TAKEN = 3;
    private static final int GRANTED = 10;
    private static final int NO_CHANGE = 1000;

    // A rank puts a set of gaps behind its cost and its number of commas, so that the best
    // commas are those with the least rank, and ranks of parts can be added.
    private static final int RANK_PER_COST = 1 << 15;
    private static final int RANK_PER_COMMA = 1 << 11;

    private final State now = new State();
    private final State snapshot = new State();
    private final State[] history = new State[MOST_STATES];
    private final Pad pad = new Pad();
    // The pad is read into the draft ahead of its print; it is never stayed itself, nor sued.
    private final Edition draft = new Edition();
    private final Sheet sheet = new Sheet();
    private boolean saved;
    private int states;
    private boolean stopped;
    private int stopReason;
    private int stopPart;
    private int stopPlace;

    public CommaCourt() {
        for (int state = 0; state < history.length; state++) {
            history[state] = new State();
        }
    }

    // ---- words, rulings

    public int weight(int kind, int weight) {
        if (!isKind(kind) || !isWithin(weight, 1, 9)) {
            return INVALID_ARGUMENT;
        }
        keepState();
        int before = at(now.weights, kind);
        put(now.weights, kind, weight);
        return before;
    }

    public int set(int what, int value) {
        boolean fits = what == BALANCE && isWithin(value, 1, 30)
                || what == HEAVY && isWithin(value, 9, 60);
        if (!fits) {
            return INVALID_ARGUMENT;
        }
        keepState();
        int before = at(now.settings, what);
        put(now.settings, what, value);
        return before;
    }

    public int rule(int first, int second, boolean comma, int fine, int cites) {
        if (!isAboutKinds(first, second, fine) || !isWithin(cites, NONE, now.rulingCount - 1)) {
            return INVALID_ARGUMENT;
        }
        if (now.rulingCount >= MOST_RULINGS) {
            return LIMIT_REACHED;
        }
        keepState();
        now.addRuling(first, second, comma, fine, cites);
        return now.rulingCount - 1;
    }

    public int overrule(int ruling) {
        Ruling it = now.rulingAt(ruling);
        if (it == null) {
            return INVALID_ARGUMENT;
        }
        if (it.overruled) {
            return NOT_POSSIBLE;
        }
        keepState();
        int before = now.rulingsInForce();
        it.overruled = true;
        now.findForce();
        return before - now.rulingsInForce();
    }

    // ---- editions, suits

    public int print() {
        if (pad.editionFault() != NONE) {
            return NOT_POSSIBLE;
        }
        pad.writeTo(draft);
        if (now.hasEditionLike(draft, draft.commas)) {
            return NOT_POSSIBLE;
        }
        if (now.editionCount >= MOST_EDITIONS) {
            return LIMIT_REACHED;
        }
        keepState();
        now.addEdition(draft);
        pad.length = 0;
        return now.editionCount - 1;
    }

    public int drop(int edition) {
        if (now.editionAt(edition) == null) {
            return INVALID_ARGUMENT;
        }
        keepState();
        now.removeEdition(edition);
        return now.editionCount;
    }

    public int sue(int edition, int gap) {
        Edition it = now.editionAt(edition);
        if (it == null || !it.hasGap(gap)) {
            return INVALID_ARGUMENT;
        }
        keepState();
        return decide(it, gap);
    }

    public int stay(int edition, int days) {
        Edition it = now.editionAt(edition);
        if (it == null || !isWithin(days, 0, 30)) {
            return INVALID_ARGUMENT;
        }
        keepState();
        int before = it.until;
        it.until = now.day + days;
        return before;
    }

    public int day() {
        keepState();
        now.day++;
        return now.day;
    }

    // ---- texts

    public int append(int code) {
        if (!isWithin(code, 33, 126)) {
            return INVALID_ARGUMENT;
        }
        if (pad.length >= MOST_SIGNS) {
            return LIMIT_REACHED;
        }
        put(pad.signs, pad.length, code);
        pad.length++;
        return pad.length;
    }

    public int clear() {
        int before = pad.length;
        pad.length = 0;
        return before;
    }

    public int fault(int way) {
        if (!isWithin(way, 0, 1)) {
            return INVALID_ARGUMENT;
        }
        int fault = way == 0 ? pad.editionFault() : pad.suitsFault();
        return fault == NONE ? NOT_FOUND : fault;
    }

    public int plead() {
        if (pad.suitsFault() != NONE) {
            return NOT_POSSIBLE;
        }
        keepState();
        stopped = false;
        int done = 0;
        for (int place = 0; place < pad.length && !stopped; place++) {
            if (pad.beginsPart(place)) {
                int reason = reasonOfPart(place);
                if (reason == 0) {
                    done++;
                } else {
                    stopped = true;
                    stopReason = reason;
                    stopPart = done;
                    stopPlace = place;
                }
            }
        }
        pad.length = 0;
        return done;
    }

    public int why(int what) {
        if (!isWithin(what, 0, 2)) {
            return INVALID_ARGUMENT;
        }
        if (!stopped) {
            return NOT_FOUND;
        }
        switch (what) {
            case 0:
                return stopReason;
            case 1:
                return stopPart;
            default:
                return stopPlace;
        }
    }

    public int sign(int edition, int place) {
        Edition it = now.editionAt(edition);
        if (it == null || place < 0) {
            return INVALID_ARGUMENT;
        }
        return it.textSign(place);
    }

    // ---- looks; nothing is changed

    public int edition(int edition, int what) {
        Edition it = now.editionAt(edition);
        if (it == null) {
            return INVALID_ARGUMENT;
        }
        sheet.read(now, it);
        switch (what) {
            case 0:
                return it.words;
            case 1:
                return it.commas;
            case 2:
                return it.clauses();
            case 3:
                return sheet.wholeWeight();
            case 4:
                return sheet.clausesCost(it.commas);
            case 5:
                return sheet.fines(it.commas);
            case 6:
                return sheet.cost(it.commas);
            case 7:
                return now.isStayed(it) ? 1 : 0;
            case 8:
                return it.until;
            case 9:
                return it.granted;
            default:
                return INVALID_ARGUMENT;
        }
    }

    public int gap(int edition, int gap, int what) {
        Edition it = now.editionAt(edition);
        if (it == null || !it.hasGap(gap)) {
            return INVALID_ARGUMENT;
        }
        switch (what) {
            case 0:
                return it.hasComma(gap) ? 1 : 0;
            case 1:
                return now.countingAt(it, gap);
            case 2:
                return now.fineAt(it, gap);
            case 3:
                sheet.read(now, it);
                return NO_CHANGE + sheet.cost(it.movedCommas(gap)) - sheet.cost(it.commas);
            default:
                return INVALID_ARGUMENT;
        }
    }

    public int ruling(int ruling, int what) {
        Ruling it = now.rulingAt(ruling);
        if (it == null) {
            return INVALID_ARGUMENT;
        }
        switch (what) {
            case 0:
                return it.first;
            case 1:
                return it.second;
            case 2:
                return it.comma ? 1 : 0;
            case 3:
                return it.fine;
            case 4:
                return it.cites == NONE ? NOT_FOUND : it.cites;
            case 5:
                return it.inForce ? 1 : 0;
            case 6:
                return now.counts(ruling) ? 1 : 0;
            case 7:
                return now.citationsOf(ruling);
            case 8:
                return now.finesBroughtBy(ruling);
            default:
                return INVALID_ARGUMENT;
        }
    }

    public int whyNot(int edition, int gap) {
        Edition it = now.editionAt(edition);
        if (it == null || !it.hasGap(gap)) {
            return INVALID_ARGUMENT;
        }
        sheet.read(now, it);
        return reasonAgainst(it, gap);
    }

    public int best(int edition, int what, int way) {
        Edition it = now.editionAt(edition);
        if (it == null || !isWithin(what, 0, 2) || !isWithin(way, 0, 1)) {
            return INVALID_ARGUMENT;
        }
        sheet.read(now, it);
        int rank = way == 0 ? sheet.leastRankOfAllSets() : sheet.leastRankByWords();
        switch (what) {
            case 0:
                return rank % RANK_PER_COMMA;
            case 1:
                return rank / RANK_PER_COST;
            default:
                return rank % RANK_PER_COST / RANK_PER_COMMA;
        }
    }

    public int ways(int edition, int way) {
        Edition it = now.editionAt(edition);
        if (it == null || !isWithin(way, 0, 1)) {
            return INVALID_ARGUMENT;
        }
        sheet.read(now, it);
        return way == 0 ? sheet.splittingsByWords() : splittingsFrom(sheet, 0, 0);
    }

    public int count(int what) {
        switch (what) {
            case 0:
                return now.day;
            case 1:
                return now.editionCount;
            case 2:
                return now.stayedEditions();
            case 3:
                return costOfAll();
            case 4:
                return now.rulingCount;
            case 5:
                return now.rulingsInForce();
            case 6:
                return now.rulingsThatCount();
            case 7:
                return now.granted;
            case 8:
                return now.refused;
            case 9:
                return now.commasOfAll();
            case 10:
                return at(now.settings, BALANCE);
            case 11:
                return at(now.settings, HEAVY);
            case 12:
                return cheapestEdition();
            case 13:
                return pad.length;
            case 14:
                return states;
            default:
                return INVALID_ARGUMENT;
        }
    }

    public double length() {
        int words = now.wordsOfAll();
        // Each edition has one clause more than it has commas.
        int clauses = now.commasOfAll() + now.editionCount;
        if (clauses <= 0) {
            return 0.0;
        }
        return (double) words / (double) clauses;
    }

    // ---- what would be; nothing is changed

    public int ifRuled(int first, int second, boolean comma, int fine) {
        if (!isAboutKinds(first, second, fine)) {
            return INVALID_ARGUMENT;
        }
        int more = 0;
        for (int number = 0; number < now.editionCount; number++) {
            Edition it = now.editionAt(number);
            if (it != null) {
                for (int gap = 0; gap < it.words - 1; gap++) {
                    if (it.kindAt(gap) == first && it.kindAt(gap + 1) == second) {
                        int then = it.hasComma(gap) == comma ? 0 : fine;
                        more += then - now.fineAt(it, gap);
                    }
                }
            }
        }
        return NO_CHANGE + more;
    }

    public int bestSuit(int edition) {
        Edition it = now.editionAt(edition);
        if (it == null) {
            return INVALID_ARGUMENT;
        }
        sheet.read(now, it);
        int found = NOT_FOUND;
        int least = 0;
        for (int gap = 0; gap < it.words - 1; gap++) {
            int then = sheet.cost(it.movedCommas(gap));
            if ((found == NOT_FOUND || then < least) && reasonAgainst(it, gap) == 0) {
                found = gap;
                least = then;
            }
        }
        return found;
    }

    // ---- history, snapshot

    public int undo() {
        State before = stateAt(states - 1);
        if (before == null) {
            return NOT_POSSIBLE;
        }
        now.copyFrom(before);
        states--;
        return states;
    }

    public int save() {
        snapshot.copyFrom(now);
        saved = true;
        return now.editionCount;
    }

    public int restore() {
        if (!saved) {
            return NOT_POSSIBLE;
        }
        keepState();
        now.copyFrom(snapshot);
        return now.editionCount;
    }

    // ---- helpers

    private static boolean isWithin(int value, int least, int most) {
        return value >= least && value <= most;
    }

    private static boolean isKind(int kind) {
        return isWithin(kind, 0, KINDS - 1);
    }

    private static boolean isAboutKinds(int first, int second, int fine) {
        return isKind(first) && isKind(second) && isWithin(fine, 1, 20);
    }

    private static int at(int[] row, int place) {
        return place >= 0 && place < row.length ? row[place] : 0;
    }

    private static void put(int[] row, int place, int value) {
        if (place >= 0 && place < row.length) {
            row[place] = value;
        }
    }

    private State stateAt(int number) {
        return number >= 0 && number < states && number < history.length ? history[number] : null;
    }

    /** Keeps the present state in the history, ahead of a change. */
    private void keepState() {
        if (states >= history.length) {
            forgetOldest();
        }
        if (states >= 0 && states < history.length && history[states] != null) {
            history[states].copyFrom(now);
            states++;
        }
    }

    private void forgetOldest() {
        if (history.length == 0) {
            return;
        }
        State oldest = history[0];
        for (int state = 1; state < history.length; state++) {
            history[state - 1] = history[state];
        }
        // The dropped state's object serves again, so that a change makes no objects.
        history[history.length - 1] = oldest;
        states = history.length - 1;
    }

    /** Grants a suit, or refuses it and counts that; answers as sue() does. */
    private int decide(Edition it, int gap) {
        sheet.read(now, it);
        int reason = reasonAgainst(it, gap);
        if (reason != 0) {
            now.refused++;
            return reason;
        }
        int moved = it.movedCommas(gap);
        int less = sheet.cost(it.commas) - sheet.cost(moved);
        it.commas = moved;
        it.granted++;
        now.granted++;
        return GRANTED + less;
    }

    /** The reason to refuse a suit about the edition that is on the sheet; 0 for none. */
    private int reasonAgainst(Edition it, int gap) {
        if (now.isStayed(it)) {
            return STAYED;
        }
        int moved = it.movedCommas(gap);
        if (sheet.cost(moved) >= sheet.cost(it.commas)) {
            return NOT_LESS;
        }
        return now.hasEditionLike(it, moved) ? TAKEN : 0;
    }

    /** Does the part of the pad that begins there; answers why() of it, 0 if it is done. */
    private int reasonOfPart(int place) {
        if (pad.signAt(place) == '+') {
            now.day++;
            return 0;
        }
        Edition it = now.editionAt(pad.signAt(place) - '0');
        int gap = pad.gapAt(place + 2);
        if (it == null || !it.hasGap(gap)) {
            return INVALID_ARGUMENT;
        }
        int answer = decide(it, gap);
        return answer > GRANTED ? 0 : answer;
    }

    private int costOfEdition(int number) {
        Edition it = now.editionAt(number);
        if (it == null) {
            return 0;
        }
        sheet.read(now, it);
        return sheet.cost(it.commas);
    }

    private int costOfAll() {
        int cost = 0;
        for (int number = 0; number < now.editionCount; number++) {
            cost += costOfEdition(number);
        }
        return cost;
    }

    private int cheapestEdition() {
        int found = NOT_FOUND;
        int least = 0;
        for (int number = 0; number < now.editionCount; number++) {
            int cost = costOfEdition(number);
            if (found == NOT_FOUND || cost < least) {
                found = number;
                least = cost;
            }
        }
        return found;
    }

    /** In how many ways the words from a start on can be split, by each first clause of them. */
    private static int splittingsFrom(Sheet sheet, int start, int depth) {
        if (start >= sheet.words) {
            return 1;
        }
        if (depth >= MOST_WORDS) {
            return 0;
        }
        int splittings = 0;
        int weight = 0;
        for (int word = start; word < sheet.words; word++) {
            weight += at(sheet.weights, word);
            if (weight <= sheet.heavy) {
                splittings += splittingsFrom(sheet, word + 1, depth + 1);
            }
        }
        return splittings;
    }

    /** A row of words with commas between some, and what was done about it. */
    private static final class Edition {
        final int[] kinds = new int[MOST_WORDS];
        int words;
        int commas;
        int until;
        int granted;

        void copyFrom(Edition other) {
            for (int word = 0; word < MOST_WORDS; word++) {
                put(kinds, word, at(other.kinds, word));
            }
            words = other.words;
            commas = other.commas;
            until = other.until;
            granted = other.granted;
        }

        boolean hasGap(int gap) {
            return gap >= 0 && gap < words - 1;
        }

        boolean hasComma(int gap) {
            return ((commas >> gap) & 1) == 1;
        }

        int kindAt(int word) {
            return word >= 0 && word < kinds.length ? kinds[word] : 0;
        }

        int clauses() {
            return Integer.bitCount(commas) + 1;
        }

        int movedCommas(int gap) {
            return commas ^ (1 << gap);
        }

        boolean hasWordsOf(Edition other) {
            if (words != other.words) {
                return false;
            }
            for (int word = 0; word < words; word++) {
                if (kindAt(word) != other.kindAt(word)) {
                    return false;
                }
            }
            return true;
        }

        /** The sign at a place of the edition's text, NOT_FOUND behind its end. */
        int textSign(int place) {
            int here = 0;
            for (int word = 0; word < words; word++) {
                if (here == place) {
                    return 'a' + kindAt(word);
                }
                here++;
                if (hasComma(word)) {
                    if (here == place) {
                        return ',';
                    }
                    here++;
                }
            }
            return NOT_FOUND;
        }
    }

    /** A ruling; whether it is in force is found anew whenever a ruling comes or is overruled. */
    private static final class Ruling {
        int first;
        int second;
        boolean comma;
        int fine;
        int cites;
        boolean overruled;
        boolean inForce;

        void copyFrom(Ruling other) {
            first = other.first;
            second = other.second;
            comma = other.comma;
            fine = other.fine;
            cites = other.cites;
            overruled = other.overruled;
            inForce = other.inForce;
        }

        int fineFor(boolean hasComma) {
            return comma == hasComma ? 0 : fine;
        }
    }

    /** All that a change may change and that undo() and restore() bring back. */
    private static final class State {
        final int[] weights = new int[KINDS];
        final int[] settings = new int[SETTINGS];
        final Edition[] editions = new Edition[MOST_EDITIONS];
        final Ruling[] rulings = new Ruling[MOST_RULINGS];
        int editionCount;
        int rulingCount;
        int day;
        int granted;
        int refused;

        State() {
            for (int kind = 0; kind < KINDS; kind++) {
                put(weights, kind, kind + 1);
            }
            put(settings, BALANCE, 8);
            put(settings, HEAVY, 15);
            for (int number = 0; number < editions.length; number++) {
                editions[number] = new Edition();
            }
            for (int number = 0; number < rulings.length; number++) {
                rulings[number] = new Ruling();
            }
        }

        void copyFrom(State other) {
            for (int kind = 0; kind < KINDS; kind++) {
                put(weights, kind, at(other.weights, kind));
            }
            for (int what = 0; what < SETTINGS; what++) {
                put(settings, what, at(other.settings, what));
            }
            editionCount = other.editionCount;
            rulingCount = other.rulingCount;
            for (int number = 0; number < editionCount; number++) {
                copyEdition(other.editionAt(number), number);
            }
            for (int number = 0; number < rulingCount; number++) {
                Ruling from = other.rulingAt(number);
                Ruling to = rulingAt(number);
                if (from != null && to != null) {
                    to.copyFrom(from);
                }
            }
            day = other.day;
            granted = other.granted;
            refused = other.refused;
        }

        private void copyEdition(Edition from, int number) {
            Edition to = editionAt(number);
            if (from != null && to != null) {
                to.copyFrom(from);
            }
        }

        Edition editionAt(int number) {
            return number >= 0 && number < editionCount && number < editions.length
                    ? editions[number] : null;
        }

        Ruling rulingAt(int number) {
            return number >= 0 && number < rulingCount && number < rulings.length
                    ? rulings[number] : null;
        }

        void addEdition(Edition printed) {
            editionCount++;
            copyEdition(printed, editionCount - 1);
        }

        void removeEdition(int dropped) {
            for (int number = dropped + 1; number < editionCount; number++) {
                copyEdition(editionAt(number), number - 1);
            }
            editionCount--;
        }

        boolean hasEditionLike(Edition it, int commas) {
            for (int number = 0; number < editionCount; number++) {
                Edition other = editionAt(number);
                if (other != null && other.commas == commas && other.hasWordsOf(it)) {
                    return true;
                }
            }
            return false;
        }

        boolean isStayed(Edition it) {
            return day < it.until;
        }

        int stayedEditions() {
            int stayed = 0;
            for (int number = 0; number < editionCount; number++) {
                Edition it = editionAt(number);
                if (it != null && isStayed(it)) {
                    stayed++;
                }
            }
            return stayed;
        }

        int commasOfAll() {
            int commas = 0;
            for (int number = 0; number < editionCount; number++) {
                Edition it = editionAt(number);
                commas += it == null ? 0 : Integer.bitCount(it.commas);
            }
            return commas;
        }

        int wordsOfAll() {
            int words = 0;
            for (int number = 0; number < editionCount; number++) {
                Edition it = editionAt(number);
                words += it == null ? 0 : it.words;
            }
            return words;
        }

        void addRuling(int first, int second, boolean comma, int fine, int cites) {
            rulingCount++;
            Ruling made = rulingAt(rulingCount - 1);
            if (made != null) {
                made.first = first;
                made.second = second;
                made.comma = comma;
                made.fine = fine;
                made.cites = cites;
                made.overruled = false;
            }
            findForce();
        }

        /** Rulings cite earlier ones alone, so one pass in their order finds all in force. */
        void findForce() {
            for (int number = 0; number < rulingCount; number++) {
                Ruling it = rulingAt(number);
                if (it != null) {
                    Ruling cited = rulingAt(it.cites);
                    it.inForce = !it.overruled && (cited == null || cited.inForce);
                }
            }
        }

        int rulingsInForce() {
            int found = 0;
            for (int number = 0; number < rulingCount; number++) {
                Ruling it = rulingAt(number);
                if (it != null && it.inForce) {
                    found++;
                }
            }
            return found;
        }

        int rulingsThatCount() {
            int found = 0;
            for (int number = 0; number < rulingCount; number++) {
                if (counts(number)) {
                    found++;
                }
            }
            return found;
        }

        int citationsOf(int cited) {
            int found = 0;
            for (int number = 0; number < rulingCount; number++) {
                Ruling it = rulingAt(number);
                if (it != null && it.cites == cited) {
                    found++;
                }
            }
            return found;
        }

        /** The ruling that counts about two kinds, NOT_FOUND without one. */
        int countingAbout(int first, int second) {
            for (int number = rulingCount - 1; number >= 0; number--) {
                Ruling it = rulingAt(number);
                if (it != null && it.inForce && it.first == first && it.second == second) {
                    return number;
                }
            }
            return NOT_FOUND;
        }

        int countingAt(Edition it, int gap) {
            return countingAbout(it.kindAt(gap), it.kindAt(gap + 1));
        }

        boolean counts(int number) {
            Ruling it = rulingAt(number);
            return it != null && countingAbout(it.first, it.second) == number;
        }

        int fineAt(Edition it, int gap) {
            Ruling counting = rulingAt(countingAt(it, gap));
            return counting == null ? 0 : counting.fineFor(it.hasComma(gap));
        }

        int finesBroughtBy(int ruling) {
            int fines = 0;
            for (int number = 0; number < editionCount; number++) {
                Edition it = editionAt(number);
                if (it != null) {
                    for (int gap = 0; gap < it.words - 1; gap++) {
                        fines += countingAt(it, gap) == ruling ? fineAt(it, gap) : 0;
                    }
                }
            }
            return fines;
        }
    }

    /** What is typed: the signs of an edition, or of suits. */
    private static final class Pad {
        private static final int WRONG = -1;
        private static final int PART = 0, COLON = 1, GAP = 2, GAP_ONE = 3, PART_END = 4;

        final int[] signs = new int[MOST_SIGNS];
        int length;

        int signAt(int place) {
            return place < length ? at(signs, place) : 0;
        }

        /** The fault, read as an edition, NONE without one. */
        int editionFault() {
            int words = 0;
            boolean isWordNeeded = true;
            for (int place = 0; place < length; place++) {
                int sign = signAt(place);
                boolean fits = isWithin(sign, 'a', 'f') || sign == ',' && !isWordNeeded;
                // Behind the last word that an edition can have no comma can stand either.
                if (!fits || words >= MOST_WORDS) {
                    return place;
                }
                isWordNeeded = sign == ',';
                words += isWordNeeded ? 0 : 1;
            }
            return isWordNeeded ? length : NONE;
        }

        /** The fault, read as suits, NONE without one. */
        int suitsFault() {
            int due = PART;
            for (int place = 0; place < length; place++) {
                due = dueBehind(due, signAt(place));
                if (due == WRONG) {
                    return place;
                }
            }
            return due == GAP_ONE || due == PART_END ? NONE : length;
        }

        /** What is due behind a sign that stands where something was due. */
        private static int dueBehind(int due, int sign) {
            switch (due) {
                case PART:
                    if (sign == '+') {
                        return PART_END;
                    }
                    return isWithin(sign, '0', '3') ? COLON : WRONG;
                case COLON:
                    return sign == ':' ? GAP : WRONG;
                case GAP:
                    if (sign == '1') {
                        return GAP_ONE;
                    }
                    return isWithin(sign, '0', '9') ? PART_END : WRONG;
                case GAP_ONE:
                    if (sign == '0') {
                        return PART_END;
                    }
                    return sign == ';' ? PART : WRONG;
                default:
                    return sign == ';' ? PART : WRONG;
            }
        }

        boolean beginsPart(int place) {
            return place == 0 || signAt(place - 1) == ';';
        }

        /** The gap that is written at a place of faultless suits. */
        int gapAt(int place) {
            int next = signAt(place + 1);
            return isWithin(next, '0', '9') ? 10 + next - '0' : signAt(place) - '0';
        }

        /** Gives an edition the words and commas that the faultless pad says. */
        void writeTo(Edition edition) {
            edition.words = 0;
            edition.commas = 0;
            for (int place = 0; place < length; place++) {
                int sign = signAt(place);
                if (sign == ',') {
                    edition.commas |= 1 << (edition.words - 1);
                } else {
                    put(edition.kinds, edition.words, sign - 'a');
                    edition.words++;
                }
            }
        }
    }

    /** The numbers of one edition's words and gaps; all that depends on its commas is told from it. */
    private static final class Sheet {
        final int[] weights = new int[MOST_WORDS];
        private final int[] finesWithComma = new int[MOST_WORDS];
        private final int[] finesWithout = new int[MOST_WORDS];
        private final int[] byWords = new int[MOST_WORDS + 1];
        int words;
        int heavy;
        private int balance;

        void read(State state, Edition edition) {
            words = edition.words;
            balance = at(state.settings, BALANCE);
            heavy = at(state.settings, HEAVY);
            for (int word = 0; word < words; word++) {
                put(weights, word, at(state.weights, edition.kindAt(word)));
            }
            for (int gap = 0; gap < words - 1; gap++) {
                Ruling counting = state.rulingAt(state.countingAt(edition, gap));
                put(finesWithComma, gap, counting == null ? 0 : counting.fineFor(true));
                put(finesWithout, gap, counting == null ? 0 : counting.fineFor(false));
            }
        }

        int wholeWeight() {
            int weight = 0;
            for (int word = 0; word < words; word++) {
                weight += at(weights, word);
            }
            return weight;
        }

        private int clauseCost(int weight) {
            return Math.abs(weight - balance);
        }

        int clausesCost(int commas) {
            int cost = 0;
            int weight = 0;
            for (int word = 0; word < words; word++) {
                weight += at(weights, word);
                if (word == words - 1 || ((commas >> word) & 1) == 1) {
                    cost += clauseCost(weight);
                    weight = 0;
                }
            }
            return cost;
        }

        int fines(int commas) {
            int fines = 0;
            for (int gap = 0; gap < words - 1; gap++) {
                fines += ((commas >> gap) & 1) == 1
                        ? at(finesWithComma, gap) : at(finesWithout, gap);
            }
            return fines;
        }

        int cost(int commas) {
            return clausesCost(commas) + fines(commas);
        }

        private int rank(int commas) {
            return cost(commas) * RANK_PER_COST + Integer.bitCount(commas) * RANK_PER_COMMA + commas;
        }

        int leastRankOfAllSets() {
            int least = rank(0);
            for (int commas = 1; commas < 1 << (words - 1); commas++) {
                least = Math.min(least, rank(commas));
            }
            return least;
        }

        int leastRankByWords() {
            for (int end = 1; end <= words; end++) {
                put(byWords, end, leastRankUpTo(end));
            }
            return at(byWords, words);
        }

        /** The least rank of the words ahead of an end, from those ahead of each last clause. */
        private int leastRankUpTo(int end) {
            int least = 0;
            int weight = 0;
            int fines = 0;
            for (int start = end - 1; start >= 0; start--) {
                boolean isFirstTried = start == end - 1;
                weight += at(weights, start);
                fines += isFirstTried ? 0 : at(finesWithout, start);
                int rank = rankUpToClause(start) + (clauseCost(weight) + fines) * RANK_PER_COST;
                least = isFirstTried ? rank : Math.min(least, rank);
            }
            return least;
        }

        /** The rank of all ahead of a clause, with the comma that parts it from the clause. */
        private int rankUpToClause(int start) {
            if (start == 0) {
                return 0;
            }
            int gap = start - 1;
            return at(byWords, start) + at(finesWithComma, gap) * RANK_PER_COST
                    + RANK_PER_COMMA + (1 << gap);
        }

        int splittingsByWords() {
            put(byWords, 0, 1);
            for (int end = 1; end <= words; end++) {
                int splittings = 0;
                int weight = 0;
                for (int start = end - 1; start >= 0; start--) {
                    weight += at(weights, start);
                    splittings += weight <= heavy ? at(byWords, start) : 0;
                }
                put(byWords, end, splittings);
            }
            return at(byWords, words);
        }
    }
}
