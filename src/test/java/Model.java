import java.util.ArrayDeque;
import java.util.ArrayList;
import java.util.Comparator;
import java.util.Deque;
import java.util.List;
import java.util.regex.Matcher;
import java.util.regex.Pattern;

/**
 * The document once more, written over texts and records that never change, with the plainest
 * search for everything: slow, and of another make than the class, so that both seldom err alike.
 */
final class Model {
    private static final int INVALID = -1, NOT_POSSIBLE = -2, LIMIT = -3, NOT_FOUND = -4;
    private static final Pattern EDITION = Pattern.compile("[a-f](,?[a-f]){0,11}");
    private static final Pattern SUITS =
            Pattern.compile("(\\+|[0-3]:(10|[0-9]))(;(\\+|[0-3]:(10|[0-9])))*");

    record Ruling(int first, int second, boolean comma, int fine, int cites, boolean overruled) { }

    record Edition(String text, int until, int granted) {
        String words() {
            return text.replace(",", "");
        }
    }

    record State(List<Integer> weights, int balance, int heavy, List<Edition> editions,
            List<Ruling> rulings, int day, int granted, int refused) { }

    private State now = new State(List.of(1, 2, 3, 4, 5, 6), 8, 15, List.of(), List.of(), 0, 0, 0);
    private final Deque<State> history = new ArrayDeque<>();
    private State snapshot;
    private String pad = "";
    private int[] stop;

    private void change(State next) {
        history.addLast(now);
        if (history.size() > 4) {
            history.removeFirst();
        }
        now = next;
    }

    private static State withEditions(State s, List<Edition> editions) {
        return new State(s.weights, s.balance, s.heavy, editions, s.rulings, s.day, s.granted, s.refused);
    }

    private static State withRulings(State s, List<Ruling> rulings) {
        return new State(s.weights, s.balance, s.heavy, s.editions, rulings, s.day, s.granted, s.refused);
    }

    private static State withDay(State s, int day) {
        return new State(s.weights, s.balance, s.heavy, s.editions, s.rulings, day, s.granted, s.refused);
    }

    private static <T> List<T> replaced(List<T> list, int place, T by) {
        List<T> copy = new ArrayList<>(list);
        copy.set(place, by);
        return List.copyOf(copy);
    }

    private static <T> List<T> added(List<T> list, T last) {
        List<T> copy = new ArrayList<>(list);
        copy.add(last);
        return List.copyOf(copy);
    }

    private static boolean in(int value, int least, int most) {
        return least <= value && value <= most;
    }

    private static boolean noEdition(State s, int edition) {
        return !in(edition, 0, s.editions.size() - 1);
    }

    private static boolean noGap(State s, int edition, int gap) {
        return noEdition(s, edition) || !in(gap, 0, s.editions.get(edition).words().length() - 2);
    }

    // ---- texts of editions

    private static String textOf(String words, int set) {
        StringBuilder text = new StringBuilder();
        for (int word = 0; word < words.length(); word++) {
            text.append(words.charAt(word));
            if ((set & 1 << word) != 0) {
                text.append(',');
            }
        }
        return text.toString();
    }

    private static int setOf(String text) {
        int set = 0;
        int words = 0;
        for (char sign : text.toCharArray()) {
            if (sign == ',') {
                set |= 1 << words - 1;
            } else {
                words++;
            }
        }
        return set;
    }

    private static String moved(String text, int gap) {
        return textOf(text.replace(",", ""), setOf(text) ^ 1 << gap);
    }

    private static int weightOf(State s, String clause) {
        return clause.chars().map(sign -> s.weights.get(sign - 'a')).sum();
    }

    private static int clausesCost(State s, String text) {
        int cost = 0;
        for (String clause : text.split(",")) {
            cost += Math.abs(weightOf(s, clause) - s.balance);
        }
        return cost;
    }

    private static int fines(State s, String text) {
        int fines = 0;
        for (int gap = 0; gap < text.replace(",", "").length() - 1; gap++) {
            fines += fineAt(s, text, gap);
        }
        return fines;
    }

    private static int fineAt(State s, String text, int gap) {
        int counting = countingAt(s, text, gap);
        if (counting < 0) {
            return 0;
        }
        Ruling ruling = s.rulings.get(counting);
        boolean comma = (setOf(text) >> gap & 1) != 0;
        return ruling.comma != comma ? ruling.fine : 0;
    }

    private static int countingAt(State s, String text, int gap) {
        String words = text.replace(",", "");
        int found = NOT_FOUND;
        for (int r = 0; r < s.rulings.size(); r++) {
            Ruling ruling = s.rulings.get(r);
            if (inForce(s, r) && words.charAt(gap) - 'a' == ruling.first
                    && words.charAt(gap + 1) - 'a' == ruling.second) {
                found = r;
            }
        }
        return found;
    }

    private static boolean inForce(State s, int ruling) {
        Ruling it = s.rulings.get(ruling);
        return !it.overruled && (it.cites < 0 || inForce(s, it.cites));
    }

    private static int forces(State s) {
        int forces = 0;
        for (int r = 0; r < s.rulings.size(); r++) {
            forces += inForce(s, r) ? 1 : 0;
        }
        return forces;
    }

    private static boolean counts(State s, int ruling) {
        Ruling it = s.rulings.get(ruling);
        for (int r = ruling + 1; r < s.rulings.size(); r++) {
            Ruling later = s.rulings.get(r);
            if (inForce(s, r) && later.first == it.first && later.second == it.second) {
                return false;
            }
        }
        return inForce(s, ruling);
    }

    private static int cost(State s, String text) {
        return clausesCost(s, text) + fines(s, text);
    }

    private static int costOfAll(State s) {
        return s.editions.stream().mapToInt(it -> cost(s, it.text)).sum();
    }

    private static boolean isThere(State s, String text) {
        return s.editions.stream().anyMatch(it -> it.text.equals(text));
    }

    private static int reason(State s, int edition, int gap) {
        Edition it = s.editions.get(edition);
        String then = moved(it.text, gap);
        if (s.day < it.until) {
            return 1;
        }
        if (cost(s, then) >= cost(s, it.text)) {
            return 2;
        }
        return isThere(s, then) ? 3 : 0;
    }

    private static State sued(State s, int edition, int gap) {
        if (reason(s, edition, gap) != 0) {
            return new State(s.weights, s.balance, s.heavy, s.editions, s.rulings, s.day, s.granted, s.refused + 1);
        }
        Edition it = s.editions.get(edition);
        Edition then = new Edition(moved(it.text, gap), it.until, it.granted + 1);
        return new State(s.weights, s.balance, s.heavy, replaced(s.editions, edition, then), s.rulings,
                s.day, s.granted + 1, s.refused);
    }

    // ---- the face

    int weight(int kind, int weight) {
        if (!in(kind, 0, 5) || !in(weight, 1, 9)) {
            return INVALID;
        }
        int before = now.weights.get(kind);
        State s = now;
        change(new State(replaced(s.weights, kind, weight), s.balance, s.heavy, s.editions, s.rulings, s.day,
                s.granted, s.refused));
        return before;
    }

    int set(int what, int value) {
        State s = now;
        if (what == 0 && in(value, 1, 30)) {
            change(new State(s.weights, value, s.heavy, s.editions, s.rulings, s.day, s.granted, s.refused));
            return s.balance;
        }
        if (what == 1 && in(value, 9, 60)) {
            change(new State(s.weights, s.balance, value, s.editions, s.rulings, s.day, s.granted, s.refused));
            return s.heavy;
        }
        return INVALID;
    }

    int rule(int first, int second, boolean comma, int fine, int cites) {
        if (!in(first, 0, 5) || !in(second, 0, 5) || !in(fine, 1, 20) || !in(cites, -1, now.rulings.size() - 1)) {
            return INVALID;
        }
        if (now.rulings.size() == 10) {
            return LIMIT;
        }
        change(withRulings(now, added(now.rulings, new Ruling(first, second, comma, fine, cites, false))));
        return now.rulings.size() - 1;
    }

    int overrule(int ruling) {
        if (!in(ruling, 0, now.rulings.size() - 1)) {
            return INVALID;
        }
        Ruling it = now.rulings.get(ruling);
        if (it.overruled) {
            return NOT_POSSIBLE;
        }
        int before = forces(now);
        change(withRulings(now, replaced(now.rulings, ruling,
                new Ruling(it.first, it.second, it.comma, it.fine, it.cites, true))));
        return before - forces(now);
    }

    int print() {
        if (faultOf(EDITION) >= 0 || isThere(now, pad)) {
            return NOT_POSSIBLE;
        }
        if (now.editions.size() == 4) {
            return LIMIT;
        }
        change(withEditions(now, added(now.editions, new Edition(pad, 0, 0))));
        pad = "";
        return now.editions.size() - 1;
    }

    int drop(int edition) {
        if (noEdition(now, edition)) {
            return INVALID;
        }
        List<Edition> left = new ArrayList<>(now.editions);
        left.remove(edition);
        change(withEditions(now, List.copyOf(left)));
        return left.size();
    }

    int sue(int edition, int gap) {
        if (noGap(now, edition, gap)) {
            return INVALID;
        }
        int reason = reason(now, edition, gap);
        int before = cost(now, now.editions.get(edition).text);
        change(sued(now, edition, gap));
        return reason != 0 ? reason : 10 + before - cost(now, now.editions.get(edition).text);
    }

    int stay(int edition, int days) {
        if (noEdition(now, edition) || !in(days, 0, 30)) {
            return INVALID;
        }
        Edition it = now.editions.get(edition);
        change(withEditions(now, replaced(now.editions, edition,
                new Edition(it.text, now.day + days, it.granted))));
        return it.until;
    }

    int day() {
        change(withDay(now, now.day + 1));
        return now.day;
    }

    int append(int code) {
        if (!in(code, 33, 126)) {
            return INVALID;
        }
        if (pad.length() == 60) {
            return LIMIT;
        }
        pad += (char) code;
        return pad.length();
    }

    int clear() {
        int before = pad.length();
        pad = "";
        return before;
    }

    /** A beginning fits, if the whole of it matches, or a match failed for want of more signs alone. */
    private int faultOf(Pattern pattern) {
        for (int end = 1; end <= pad.length(); end++) {
            Matcher matcher = pattern.matcher(pad.substring(0, end));
            if (!matcher.matches() && !matcher.hitEnd()) {
                return end - 1;
            }
        }
        return pattern.matcher(pad).matches() ? NOT_FOUND : pad.length();
    }

    int fault(int way) {
        return way == 0 ? faultOf(EDITION) : way == 1 ? faultOf(SUITS) : INVALID;
    }

    int plead() {
        if (faultOf(SUITS) >= 0) {
            return NOT_POSSIBLE;
        }
        State s = now;
        stop = null;
        int done = 0;
        int place = 0;
        for (String part : pad.split(";")) {
            if (part.equals("+")) {
                s = withDay(s, s.day + 1);
            } else {
                int edition = Integer.parseInt(part.substring(0, 1));
                int gap = Integer.parseInt(part.substring(2));
                int reason = noGap(s, edition, gap) ? INVALID : reason(s, edition, gap);
                if (reason != INVALID) {
                    s = sued(s, edition, gap);
                }
                if (reason != 0) {
                    stop = new int[] {reason, done, place};
                    break;
                }
            }
            done++;
            place += part.length() + 1;
        }
        change(s);
        pad = "";
        return done;
    }

    int why(int what) {
        return !in(what, 0, 2) ? INVALID : stop == null ? NOT_FOUND : stop[what];
    }

    int sign(int edition, int place) {
        if (noEdition(now, edition) || place < 0) {
            return INVALID;
        }
        String text = now.editions.get(edition).text;
        return place < text.length() ? text.charAt(place) : NOT_FOUND;
    }

    int edition(int edition, int what) {
        if (noEdition(now, edition) || !in(what, 0, 9)) {
            return INVALID;
        }
        Edition it = now.editions.get(edition);
        return switch (what) {
            case 0 -> it.words().length();
            case 1 -> setOf(it.text);
            case 2 -> it.text.split(",").length;
            case 3 -> weightOf(now, it.words());
            case 4 -> clausesCost(now, it.text);
            case 5 -> fines(now, it.text);
            case 6 -> cost(now, it.text);
            case 7 -> now.day < it.until ? 1 : 0;
            case 8 -> it.until;
            default -> it.granted;
        };
    }

    int gap(int edition, int gap, int what) {
        if (noGap(now, edition, gap) || !in(what, 0, 3)) {
            return INVALID;
        }
        String text = now.editions.get(edition).text;
        return switch (what) {
            case 0 -> setOf(text) >> gap & 1;
            case 1 -> countingAt(now, text, gap);
            case 2 -> fineAt(now, text, gap);
            default -> 1000 + cost(now, moved(text, gap)) - cost(now, text);
        };
    }

    int ruling(int ruling, int what) {
        if (!in(ruling, 0, now.rulings.size() - 1) || !in(what, 0, 8)) {
            return INVALID;
        }
        Ruling it = now.rulings.get(ruling);
        return switch (what) {
            case 0 -> it.first;
            case 1 -> it.second;
            case 2 -> it.comma ? 1 : 0;
            case 3 -> it.fine;
            case 4 -> it.cites < 0 ? NOT_FOUND : it.cites;
            case 5 -> inForce(now, ruling) ? 1 : 0;
            case 6 -> counts(now, ruling) ? 1 : 0;
            case 7 -> (int) now.rulings.stream().filter(other -> other.cites == ruling).count();
            default -> finesBy(ruling);
        };
    }

    private int finesBy(int ruling) {
        int fines = 0;
        for (Edition it : now.editions) {
            for (int gap = 0; gap < it.words().length() - 1; gap++) {
                if (countingAt(now, it.text, gap) == ruling) {
                    fines += fineAt(now, it.text, gap);
                }
            }
        }
        return fines;
    }

    int whyNot(int edition, int gap) {
        return noGap(now, edition, gap) ? INVALID : reason(now, edition, gap);
    }

    int best(int edition, int what, int way) {
        if (noEdition(now, edition) || !in(what, 0, 2) || !in(way, 0, 1)) {
            return INVALID;
        }
        String words = now.editions.get(edition).words();
        List<int[]> told = new ArrayList<>();
        for (int set = 0; set < 1 << words.length() - 1; set++) {
            told.add(new int[] {set, cost(now, textOf(words, set)), Integer.bitCount(set)});
        }
        return told.stream().min(Comparator.<int[]>comparingInt(row -> row[1])
                .thenComparingInt(row -> row[2]).thenComparingInt(row -> row[0])).orElseThrow()[what];
    }

    int ways(int edition, int way) {
        if (noEdition(now, edition) || !in(way, 0, 1)) {
            return INVALID;
        }
        String words = now.editions.get(edition).words();
        int ways = 0;
        for (int set = 0; set < 1 << words.length() - 1; set++) {
            boolean light = true;
            for (String clause : textOf(words, set).split(",")) {
                light &= weightOf(now, clause) <= now.heavy;
            }
            ways += light ? 1 : 0;
        }
        return ways;
    }

    int count(int what) {
        List<Edition> all = now.editions;
        return switch (what) {
            case 0 -> now.day;
            case 1 -> all.size();
            case 2 -> (int) all.stream().filter(it -> now.day < it.until).count();
            case 3 -> costOfAll(now);
            case 4 -> now.rulings.size();
            case 5 -> forces(now);
            case 6 -> {
                int counting = 0;
                for (int r = 0; r < now.rulings.size(); r++) {
                    counting += counts(now, r) ? 1 : 0;
                }
                yield counting;
            }
            case 7 -> now.granted;
            case 8 -> now.refused;
            case 9 -> all.stream().mapToInt(it -> it.text.length() - it.words().length()).sum();
            case 10 -> now.balance;
            case 11 -> now.heavy;
            case 12 -> {
                int best = NOT_FOUND;
                for (int e = all.size() - 1; e >= 0; e--) {
                    if (best < 0 || cost(now, all.get(e).text) <= cost(now, all.get(best).text)) {
                        best = e;
                    }
                }
                yield best;
            }
            case 13 -> pad.length();
            case 14 -> history.size();
            default -> INVALID;
        };
    }

    double length() {
        double words = 0;
        double clauses = 0;
        for (Edition it : now.editions) {
            words += it.words().length();
            clauses += it.text.split(",").length;
        }
        return clauses == 0 ? 0.0 : words / clauses;
    }

    int ifRuled(int first, int second, boolean comma, int fine) {
        if (!in(first, 0, 5) || !in(second, 0, 5) || !in(fine, 1, 20)) {
            return INVALID;
        }
        Ruling would = new Ruling(first, second, comma, fine, -1, false);
        return 1000 + costOfAll(withRulings(now, added(now.rulings, would))) - costOfAll(now);
    }

    int bestSuit(int edition) {
        if (noEdition(now, edition)) {
            return INVALID;
        }
        String text = now.editions.get(edition).text;
        int found = NOT_FOUND;
        for (int gap = text.replace(",", "").length() - 2; gap >= 0; gap--) {
            if (reason(now, edition, gap) == 0
                    && (found < 0 || cost(now, moved(text, gap)) <= cost(now, moved(text, found)))) {
                found = gap;
            }
        }
        return found;
    }

    int undo() {
        if (history.isEmpty()) {
            return NOT_POSSIBLE;
        }
        now = history.removeLast();
        return history.size();
    }

    int save() {
        snapshot = now;
        return now.editions.size();
    }

    int restore() {
        if (snapshot == null) {
            return NOT_POSSIBLE;
        }
        change(snapshot);
        return now.editions.size();
    }
}
