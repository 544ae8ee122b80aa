import java.util.ArrayDeque;
import java.util.ArrayList;
import java.util.Collections;
import java.util.Comparator;
import java.util.Deque;
import java.util.List;
import java.util.TreeSet;

/**
 * The document's words once more, by other means than the class: sets as sorted sets, conditions looked at in their
 * text, a valley's text gone through sign by sign by states, all orders written out, bodies found in a table.
 */
public final class Model {
    private static final int NONE = -1, BAD = -2, STATE = -3, FULL = -4;
    private static final int[] KIND_ABOVE = {-1, 0, 0, 0, 1, 2, 3};

    private static final class One {
        int kind, v, knows;
        boolean away;
        int[] row = new int[4];

        One copy() {
            One copy = new One();
            copy.kind = kind;
            copy.v = v;
            copy.knows = knows;
            copy.away = away;
            copy.row = row.clone();
            return copy;
        }
    }

    private static final class Ask {
        int heard, shock, place;
        boolean back;

        Ask copy() {
            Ask copy = new Ask();
            copy.heard = heard;
            copy.shock = shock;
            copy.place = place;
            copy.back = back;
            return copy;
        }
    }

    private static final class All {
        List<One> aunts = new ArrayList<>();
        List<Ask> askers = new ArrayList<>();
        List<String> valleys = new ArrayList<>();
        int[] weights = {1, 1, 1, 1, 1, 1, 1, 1};
        String tape = "";
        List<int[]> said = new ArrayList<>(), plan = new ArrayList<>(), book = new ArrayList<>();
        int day = 0;

        All copy() {
            All copy = new All();
            for (One one : aunts) {
                copy.aunts.add(one.copy());
            }
            for (Ask ask : askers) {
                copy.askers.add(ask.copy());
            }
            copy.valleys.addAll(valleys);
            copy.weights = weights.clone();
            copy.tape = tape;
            copy.said.addAll(said);
            copy.plan.addAll(plan);
            copy.book.addAll(book);
            copy.day = day;
            return copy;
        }
    }

    private All all = new All();
    private All image = null;
    private final List<Integer> trace = new ArrayList<>();

    // ---- texts

    /** The place of the fault, or -1. */
    static int fault(String text) {
        Deque<Character> open = new ArrayDeque<>();
        String state = "clause";
        String word = "";
        int clauses = 0;
        for (int i = 0; i < text.length(); i++) {
            char c = text.charAt(i);
            if (state.equals("number2") && !(c >= '0' && c <= '9')) {
                state = "behindNumber";
            }
            if (state.equals("test2") && !(c >= '0' && c <= '9')) {
                state = "behindTest";
            }
            String next = null;
            switch (state) {
                case "clause":
                    word = c == 'n' ? "nerve" : c == 'b' ? "bold" : c == 's' ? "shy" : "";
                    next = word.isEmpty() ? null : "word1";
                    break;
                case "number":
                    next = c == '0' ? "behindNumber" : c >= '1' && c <= '9' ? "number2" : null;
                    break;
                case "number2":
                    next = "behindNumber";
                    break;
                case "behindNumber":
                    if (word.equals("nerve")) {
                        next = c == ';' && clauses < 9 ? "clause" : null;
                    } else {
                        next = c == ' ' ? "part" : null;
                    }
                    break;
                case "part":
                    if ((c == '!' || c == '(') && open.size() < 5) {
                        open.push(c);
                        next = "part";
                    } else if ("pkvhld".indexOf(c) >= 0) {
                        next = "relation";
                    }
                    break;
                case "relation":
                    next = "<=>".indexOf(c) >= 0 ? "test" : null;
                    break;
                case "test":
                    next = c == '0' ? "behindTest" : c >= '1' && c <= '9' ? "test2" : null;
                    break;
                case "test2":
                    next = "behindTest";
                    break;
                case "behindTest":
                    while (!open.isEmpty() && open.peek() == '!') {
                        open.pop();
                    }
                    if (c == '&' || c == '|') {
                        next = "part";
                    } else if (c == ')' && !open.isEmpty()) {
                        open.pop();
                        next = "behindTest";
                    } else if (c == ';' && open.isEmpty() && clauses < 9) {
                        next = "clause";
                    }
                    break;
                default:
                    int at = Integer.parseInt(state.substring(4));
                    if (at < word.length()) {
                        next = word.charAt(at) == c ? "word" + (at + 1) : null;
                    } else {
                        next = c == ' ' ? "number" : null;
                    }
            }
            if (next == null) {
                return i;
            }
            if (next.equals("clause")) {
                clauses++;
            }
            state = next;
        }
        while (!open.isEmpty() && open.peek() == '!') {
            open.pop();
        }
        boolean behindTest = (state.equals("behindTest") || state.equals("test2")) && open.isEmpty();
        boolean behindNerve = word.equals("nerve") && (state.equals("behindNumber") || state.equals("number2"));
        return behindTest || behindNerve ? -1 : text.length();
    }

    private String[] clauses(All w) {
        return w.valleys.isEmpty() ? new String[0] : w.valleys.get(w.valleys.size() - 1).split(";");
    }

    private int nerve(All w) {
        int nerve = 12;
        for (String clause : clauses(w)) {
            if (clause.startsWith("nerve ")) {
                nerve = Integer.parseInt(clause.substring(6));
            }
        }
        return nerve;
    }

    private int mouth(All w, One one, int number, int heard) {
        int mouth = 1;
        for (String clause : clauses(w)) {
            String[] parts = clause.split(" ");
            if (parts.length == 3 && holds(w, one, number, heard, parts[2])) {
                mouth += (parts[0].equals("bold") ? 1 : -1) * Integer.parseInt(parts[1]);
            }
        }
        return Math.max(0, mouth);
    }

    private static List<String> split(String text, char joint) {
        List<String> parts = new ArrayList<>();
        int depth = 0;
        int from = 0;
        for (int i = 0; i < text.length(); i++) {
            char c = text.charAt(i);
            depth += c == '(' ? 1 : c == ')' ? -1 : 0;
            if (c == joint && depth == 0) {
                parts.add(text.substring(from, i));
                from = i + 1;
            }
        }
        parts.add(text.substring(from));
        return parts;
    }

    private boolean holds(All w, One one, int number, int heard, String text) {
        List<String> either = split(text, '|');
        if (either.size() > 1) {
            return either.stream().anyMatch(part -> holds(w, one, number, heard, part));
        }
        List<String> both = split(text, '&');
        if (both.size() > 1) {
            return both.stream().allMatch(part -> holds(w, one, number, heard, part));
        }
        if (text.charAt(0) == '!') {
            return !holds(w, one, number, heard, text.substring(1));
        }
        if (text.charAt(0) == '(') {
            return holds(w, one, number, heard, text.substring(1, text.length() - 1));
        }
        int n = Integer.parseInt(text.substring(2));
        int is;
        switch (text.charAt(0)) {
            case 'p': is = number; break;
            case 'k': is = one.kind; break;
            case 'v': is = one.v; break;
            case 'h': is = set(heard).size(); break;
            case 'l': is = left(one, heard).size(); break;
            default: is = w.day % 10;
        }
        return text.charAt(1) == '<' ? is < n : text.charAt(1) == '=' ? is == n : is > n;
    }

    // ---- what is said

    private static TreeSet<Integer> set(int bits) {
        TreeSet<Integer> set = new TreeSet<>();
        for (int i = 0; i < 32; i++) {
            if ((bits & 1 << i) != 0) {
                set.add(i);
            }
        }
        return set;
    }

    private static int bits(Iterable<Integer> set) {
        int bits = 0;
        for (int i : set) {
            bits |= 1 << i;
        }
        return bits;
    }

    private static TreeSet<Integer> left(One one, int heard) {
        TreeSet<Integer> left = set(one.knows);
        left.removeAll(set(heard));
        return left;
    }

    private static List<Integer> first(TreeSet<Integer> of, Comparator<Integer> by, int n) {
        List<Integer> sorted = new ArrayList<>(of);
        sorted.sort(by);
        return sorted.subList(0, Math.min(n, sorted.size()));
    }

    private int speech(All w, One one, int number, int heard) {
        int mouth = mouth(w, one, number, heard);
        TreeSet<Integer> left = left(one, heard);
        Comparator<Integer> least = Comparator.naturalOrder();
        Comparator<Integer> heaviest = Comparator.<Integer>comparingInt(f -> -w.weights[f]).thenComparing(least);
        TreeSet<Integer> said = new TreeSet<>();
        switch (one.kind) {
            case 0:
                said.addAll(first(left, least, mouth));
                break;
            case 1:
                said.addAll(first(left, heaviest, mouth));
                break;
            case 2:
            case 5:
                if (set(heard).size() < one.v) {
                    said.addAll(first(left, least, mouth));
                }
                if (one.kind == 5 && !set(heard).contains(0)) {
                    said.add(0);
                }
                break;
            case 4:
                said.addAll(first(left, heaviest, mouth));
                said.remove(one.v % 8);
                break;
            default:
                said.addAll(first(left, Collections.reverseOrder(), mouth));
                if (one.kind == 6) {
                    for (int fact : set(one.row[w.day % 4])) {
                        if (left.contains(fact)) {
                            said.add(fact);
                        }
                    }
                }
        }
        return bits(said);
    }

    private static int weight(All w, int facts) {
        return set(facts).stream().mapToInt(f -> w.weights[f]).sum();
    }

    private void day(All w) {
        for (Ask ask : w.askers) {
            if (ask.back || ask.place >= w.aunts.size()) {
                continue;
            }
            One one = w.aunts.get(ask.place);
            if (one.away) {
                ask.place++;
                continue;
            }
            int said = speech(w, one, ask.place, ask.heard);
            ask.heard |= said;
            ask.shock += weight(w, said);
            if (ask.shock > nerve(w)) {
                ask.back = true;
            } else {
                ask.place++;
            }
        }
        w.day++;
    }

    /** HEARD, SHOCK, at whom BACK or -5. */
    private int[] climbBy(All w, List<Integer> row, int heard) {
        int shock = 0;
        int now = heard;
        for (int number : row) {
            if (w.aunts.get(number).away) {
                continue;
            }
            int said = speech(w, w.aunts.get(number), number, now);
            now |= said;
            shock += weight(w, said);
            if (shock > nerve(w)) {
                return new int[] {now, shock, number};
            }
        }
        return new int[] {now, shock, -5};
    }

    private static List<Integer> up(int n) {
        List<Integer> up = new ArrayList<>();
        for (int i = 0; i < n; i++) {
            up.add(i);
        }
        return up;
    }

    /** All rows of the numbers below n, in their order. */
    private static List<List<Integer>> rows(List<Integer> of) {
        List<List<Integer>> rows = new ArrayList<>();
        if (of.isEmpty()) {
            rows.add(new ArrayList<>());
        }
        for (Integer head : of) {
            List<Integer> others = new ArrayList<>(of);
            others.remove(head);
            for (List<Integer> tail : rows(others)) {
                List<Integer> row = new ArrayList<>(List.of(head));
                row.addAll(tail);
                rows.add(row);
            }
        }
        return rows;
    }

    /** The sets of n as bits, the fewer ahead, of several the least. */
    private static List<Integer> sets(int n) {
        List<Integer> sets = up(1 << n);
        sets.sort(Comparator.<Integer>comparingInt(Integer::bitCount).thenComparing(Comparator.naturalOrder()));
        return sets;
    }

    private boolean fits(All w, One one, int number) {
        return w.said.stream().allMatch(row -> speech(w, one, number, row[0]) == row[1]);
    }

    private boolean aunt(int i, List<?> of) {
        return i >= 0 && i < of.size();
    }

    private static boolean in(int n, int least, int most) {
        return n >= least && n <= most;
    }

    private static int back(All w) {
        return (int) w.askers.stream().filter(a -> a.back).count();
    }

    private static int through(All w) {
        return (int) w.askers.stream().filter(a -> a.place >= w.aunts.size()).count();
    }

    // ---- the calls

    public int feed(int sign) {
        if (!in(sign, 0, 127)) {
            return BAD;
        }
        if (all.tape.length() == 100) {
            return FULL;
        }
        all.tape += (char) sign;
        return all.tape.length();
    }

    public int valley() {
        if (all.valleys.size() == 5) {
            return FULL;
        }
        String text = all.tape;
        all.tape = "";
        int fault = fault(text);
        if (fault >= 0) {
            return -10 - fault;
        }
        all.valleys.add(text);
        return all.valleys.size() - 1;
    }

    public int aunt(int kind, int v, int knows) {
        if (!in(kind, 0, 6)) {
            return NONE;
        }
        if (!in(v, 0, 9) || !in(knows, 0, 255)) {
            return BAD;
        }
        if (all.aunts.size() == 6) {
            return FULL;
        }
        One one = new One();
        one.kind = kind;
        one.v = v;
        one.knows = knows;
        all.aunts.add(one);
        return all.aunts.size() - 1;
    }

    public int of(int aunt, int what) {
        if (!aunt(aunt, all.aunts) || !in(what, 0, 3)) {
            return NONE;
        }
        One one = all.aunts.get(aunt);
        return new int[] {one.kind, one.v, one.knows, one.away ? 1 : 0}[what];
    }

    public int says(int aunt, int heard, int what) {
        if (!aunt(aunt, all.aunts) || !in(what, 0, 2)) {
            return NONE;
        }
        if (!in(heard, 0, 255)) {
            return BAD;
        }
        One one = all.aunts.get(aunt);
        return new int[] {bits(left(one, heard)), mouth(all, one, aunt, heard), speech(all, one, aunt, heard)}[what];
    }

    public int row(int aunt, int k, int n) {
        if (!aunt(aunt, all.aunts) || !in(k, 0, 3)) {
            return NONE;
        }
        if (!in(n, 0, 9)) {
            return BAD;
        }
        if (all.aunts.get(aunt).kind != 6) {
            return STATE;
        }
        int was = all.aunts.get(aunt).row[k];
        all.aunts.get(aunt).row[k] = n;
        return was;
    }

    public int learn(int aunt, int knows) {
        if (!aunt(aunt, all.aunts)) {
            return NONE;
        }
        if (!in(knows, 0, 255)) {
            return BAD;
        }
        int was = all.aunts.get(aunt).knows;
        all.aunts.get(aunt).knows = knows;
        return was;
    }

    public int away(int aunt, boolean is) {
        if (!aunt(aunt, all.aunts)) {
            return NONE;
        }
        boolean was = all.aunts.get(aunt).away;
        all.aunts.get(aunt).away = is;
        return was ? 1 : 0;
    }

    public int weigh(int fact, int n) {
        if (!in(fact, 0, 7)) {
            return NONE;
        }
        if (!in(n, 0, 9)) {
            return BAD;
        }
        int was = all.weights[fact];
        all.weights[fact] = n;
        return was;
    }

    public int asker() {
        if (all.askers.size() == 5) {
            return FULL;
        }
        all.askers.add(new Ask());
        return all.askers.size() - 1;
    }

    public int at(int asker, int what) {
        if (!aunt(asker, all.askers) || !in(what, 0, 4)) {
            return NONE;
        }
        Ask ask = all.askers.get(asker);
        if (what < 4) {
            return new int[] {ask.heard, ask.shock, ask.place, ask.back ? 1 : 0}[what];
        }
        All w = all.copy();
        Ask it = w.askers.get(asker);
        while (!it.back && it.place < w.aunts.size()) {
            day(w);
        }
        return it.back ? -5 : it.heard;
    }

    public int begin(int asker, int heard) {
        if (!aunt(asker, all.askers)) {
            return NONE;
        }
        if (!in(heard, 0, 255)) {
            return BAD;
        }
        int was = all.askers.get(asker).heard;
        all.askers.set(asker, new Ask());
        all.askers.get(asker).heard = heard;
        return was;
    }

    public int told(int what) {
        switch (what) {
            case 0: return all.day;
            case 1: return nerve(all);
            case 2:
                int bits = 0;
                for (int i = 0; i < all.aunts.size(); i++) {
                    bits += all.aunts.get(i).away ? 1 << i : 0;
                }
                return bits;
            case 3: return through(all);
            case 4: return back(all);
            default: return in(what, 10, 17) ? all.weights[what - 10] : NONE;
        }
    }

    public int pass(int n) {
        if (!in(n, 0, 60)) {
            return BAD;
        }
        if (all.day + n > 9999) {
            return STATE;
        }
        for (int i = 0; i < n; i++) {
            day(all);
        }
        return all.day;
    }

    public int on(int n, int what) {
        int asker = what % 10;
        if (what != 0 && !(in(what, 10, 39) && aunt(asker, all.askers))) {
            return NONE;
        }
        if (!in(n, 0, 60)) {
            return BAD;
        }
        All w = all.copy();
        for (int i = 0; i < n; i++) {
            day(w);
        }
        if (what == 0) {
            return back(w);
        }
        Ask ask = w.askers.get(asker);
        return what < 20 ? ask.heard : what < 30 ? ask.place : ask.shock;
    }

    public int climb(int way, int heard, int what) {
        if (!in(way, 0, 1) || !in(what, 0, 2)) {
            return NONE;
        }
        if (!in(heard, 0, 255)) {
            return BAD;
        }
        List<Integer> row = up(all.aunts.size());
        if (way == 1) {
            Collections.reverse(row);
        }
        return climbBy(all, row, heard)[what];
    }

    public int order(int heard, int what) {
        if (!in(what, 0, 1) && !in(what, 10, 15)) {
            return NONE;
        }
        if (!in(heard, 0, 255)) {
            return BAD;
        }
        List<Integer> best = null;
        int[] bestEnd = null;
        for (List<Integer> row : rows(up(all.aunts.size()))) {
            int[] end = climbBy(all, row, heard);
            if (end[2] != -5) {
                continue;
            }
            int more = bestEnd == null ? 1 : set(end[0]).size() - set(bestEnd[0]).size();
            if (more > 0 || more == 0 && end[1] < bestEnd[1]) {
                best = row;
                bestEnd = end;
            }
        }
        if (best == null) {
            return -5;
        }
        if (what < 2) {
            return what == 0 ? set(bestEnd[0]).size() : bestEnd[1];
        }
        return what - 10 < best.size() ? best.get(what - 10) : -5;
    }

    private All without(int more) {
        All w = all.copy();
        for (int number : set(more)) {
            w.aunts.get(number).away = true;
        }
        return w;
    }

    public int hush(int fact) {
        if (!in(fact, 0, 7)) {
            return NONE;
        }
        for (int more : sets(all.aunts.size())) {
            if (!set(climbBy(without(more), up(all.aunts.size()), 0)[0]).contains(fact)) {
                return more;
            }
        }
        return -5;
    }

    public int whole(int what) {
        if (!in(what, 0, 1)) {
            return NONE;
        }
        int known = 0;
        for (One one : all.aunts) {
            known |= one.knows;
        }
        if (what == 1) {
            return set(known).size();
        }
        for (int some : sets(all.aunts.size())) {
            int knows = 0;
            for (int number : set(some)) {
                knows |= all.aunts.get(number).knows;
            }
            if (knows == known) {
                return some;
            }
        }
        return -5;
    }

    private static int put(List<int[]> rows, int top, int one, int other) {
        if (rows.size() == top) {
            return FULL;
        }
        rows.add(new int[] {one, other});
        return rows.size();
    }

    public int say(int heard, int said) {
        if (heard == -1) {
            all.said.clear();
            return 0;
        }
        return in(heard, 0, 255) && in(said, 0, 255) ? put(all.said, 5, heard, said) : BAD;
    }

    public int knew(int aunt, int what) {
        if (!aunt(aunt, all.aunts) || !in(what, 0, 1)) {
            return NONE;
        }
        List<Integer> fit = new ArrayList<>();
        for (int knows = 0; knows < 256; knows++) {
            One one = all.aunts.get(aunt).copy();
            one.knows = knows;
            if (fits(all, one, aunt)) {
                fit.add(knows);
            }
        }
        return what == 0 ? fit.size() : fit.isEmpty() ? -5 : fit.get(0);
    }

    public int firm(int aunt, int what) {
        if (!aunt(aunt, all.aunts) || !in(what, 0, 1)) {
            return NONE;
        }
        List<Integer> fit = new ArrayList<>();
        for (int v = 0; v < 10; v++) {
            One one = all.aunts.get(aunt).copy();
            one.v = v;
            if (fits(all, one, aunt)) {
                fit.add(v);
            }
        }
        return what == 0 ? fit.size() : fit.isEmpty() ? -5 : fit.get(0);
    }

    public int who() {
        List<Integer> who = up(all.aunts.size());
        who.removeIf(number -> !fits(all, all.aunts.get(number), number));
        return bits(who);
    }

    private static long part(int above, int below, int part) {
        for (int d = below; d > 1; d--) {
            if (above % d == 0 && below % d == 0) {
                return part(above / d, below / d, part);
            }
        }
        return part == 0 ? above : below;
    }

    public long odds(int heard, int fact, int part) {
        if (!in(heard, 0, 255) || !in(fact, 0, 7) || !in(part, 0, 1) || all.aunts.isEmpty()) {
            return Long.MIN_VALUE;
        }
        int hits = 0;
        for (int number = 0; number < all.aunts.size(); number++) {
            int[] end = climbBy(without(1 << number), up(all.aunts.size()), heard);
            hits += set(end[0]).contains(fact) ? 1 : 0;
        }
        return part(hits, all.aunts.size(), part);
    }

    public long mean(int part) {
        if (!in(part, 0, 1) || all.askers.isEmpty()) {
            return Long.MIN_VALUE;
        }
        return part(all.askers.stream().mapToInt(a -> a.shock).sum(), all.askers.size(), part);
    }

    public int plan(int what, int n) {
        if (what == -1) {
            all.plan.clear();
            return 0;
        }
        boolean there = what == 0 || in(what, 1, 2) && aunt(n, all.aunts) || what == 3 && aunt(n, all.askers);
        return there ? put(all.plan, 8, what, n) : NONE;
    }

    public int done(int what) {
        if (!in(what, 0, 1)) {
            return NONE;
        }
        All w = all.copy();
        for (int[] row : w.plan) {
            switch (row[0]) {
                case 0: day(w); break;
                case 1: w.aunts.get(row[1]).away = true; break;
                case 2: w.aunts.get(row[1]).away = false; break;
                default:
                    int heard = w.askers.get(row[1]).heard;
                    w.askers.set(row[1], new Ask());
                    w.askers.get(row[1]).heard = heard;
            }
        }
        return what == 0 ? back(w) : through(w);
    }

    public int book(int asker, int heard) {
        if (asker == -1) {
            all.book.clear();
            return 0;
        }
        if (!aunt(asker, all.askers)) {
            return NONE;
        }
        return in(heard, 0, 255) ? put(all.book, 8, asker, heard) : BAD;
    }

    public int looked() {
        for (int[] row : all.book) {
            if (all.askers.get(row[0]).heard != row[1]) {
                return all.book.indexOf(row);
            }
        }
        return -5;
    }

    /** Which body a kind has for an act, or 0. */
    private static int bodyOf(int kind, String act) {
        switch (kind + act) {
            case "0rings": return 1;
            case "0asks": return 2;
            case "0warns": return 3;
            case "1rings": return 11;
            case "2asks": return 21;
            case "3warns": return 31;
            case "4warns": return 41;
            case "5rings": return 51;
            case "6asks": return 61;
            default: return 0;
        }
    }

    private int run(int from, String act, int aunt, int x) {
        int kind = from;
        while (bodyOf(kind, act) == 0) {
            kind = KIND_ABOVE[kind];
        }
        One one = all.aunts.get(aunt);
        int above = KIND_ABOVE[kind];
        trace.add(bodyOf(kind, act));
        switch (bodyOf(kind, act)) {
            case 1: return x + aunt;
            case 2: return run(one.kind, "rings", aunt, x) - one.v;
            case 3: return run(one.kind, "asks", aunt, x) * 2;
            case 11: return run(above, "rings", aunt, x * 3);
            case 21: return -run(above, "asks", aunt, x);
            case 31: return run(above, "warns", aunt, x) ^ 7;
            case 41:
                int first = run(above, "warns", aunt, x - 1);
                return first + run(one.kind, "rings", aunt, 2);
            case 51: return run(above, "rings", aunt, x) ^ aunt;
            default: return run(above, "asks", aunt, x) + one.v;
        }
    }

    public int act(int aunt, int act, int x) {
        trace.clear();
        if (!aunt(aunt, all.aunts) || !in(act, 0, 2)) {
            return 0;
        }
        return run(all.aunts.get(aunt).kind, List.of("rings", "asks", "warns").get(act), aunt, x);
    }

    public int trace(int i) {
        return in(i, 0, Math.min(20, trace.size()) - 1) ? trace.get(i) : NONE;
    }

    public int as(int aunt, int k) {
        if (!aunt(aunt, all.aunts) || !in(k, 0, 6)) {
            return NONE;
        }
        for (int kind = all.aunts.get(aunt).kind; kind >= 0; kind = KIND_ABOVE[kind]) {
            if (kind == k) {
                return all.aunts.get(aunt).v;
            }
        }
        return -6;
    }

    public int image() {
        image = all.copy();
        return all.aunts.size();
    }

    public int undo() {
        if (image == null) {
            return STATE;
        }
        all = image.copy();
        return all.aunts.size();
    }

    public int count(int what) {
        switch (what) {
            case 0: return all.aunts.size();
            case 1: return all.askers.size();
            case 2: return all.valleys.size();
            case 3: return all.said.size();
            case 4: return all.plan.size();
            case 5: return all.book.size();
            case 6: return all.tape.length();
            case 7: return trace.size();
            default: return NONE;
        }
    }
}
