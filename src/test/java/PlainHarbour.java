import java.math.BigInteger;
import java.util.ArrayDeque;
import java.util.ArrayList;
import java.util.Deque;
import java.util.HashMap;
import java.util.List;
import java.util.Map;
import java.util.TreeSet;
import java.util.regex.Matcher;
import java.util.regex.Pattern;

/** The document told a second time, as plainly as can be and slowly, to compare ParrotSpeech with. */
final class PlainHarbour {
    private static final int NONE = -1, UNKNOWN = -2, OUTSIDE = -3, NOT = -4, FULL = -5;
    private static final int NULL = -11, CAST = -12, STORE = -13, INDEX = -14, EMPTY = -15, SIZE = -16;

    // ---- kinds, over one another

    private abstract static class Kind {
        abstract int hears();

        abstract int gets();

        abstract int says();

        abstract int loses();

        abstract boolean silences();
    }

    private static class Parrot extends Kind {
        int hears() {
            return 1;
        }

        int gets() {
            return 3;
        }

        int says() {
            return 1;
        }

        int loses() {
            return 1;
        }

        boolean silences() {
            return false;
        }
    }

    private static final class Grey extends Parrot {
        int gets() {
            return super.gets() + 2;
        }

        int loses() {
            return 0;
        }
    }

    private static final class Cockatoo extends Parrot {
        int says() {
            return super.says() * 2;
        }
    }

    private static class Hawk extends Kind {
        int hears() {
            return 0;
        }

        int gets() {
            return 0;
        }

        int says() {
            return 0;
        }

        int loses() {
            return 0;
        }

        boolean silences() {
            return true;
        }
    }

    private static final class Green extends Hawk {
        int hears() {
            return 2;
        }

        boolean silences() {
            return false;
        }
    }

    private static final List<Kind> KINDS = List.of(new Parrot(), new Grey(), new Cockatoo(), new Hawk(), new Green());
    private static final List<String> NAMES = List.of("parrot", "grey", "cockatoo", "hawk", "green");
    private static final List<Class<? extends Kind>> OVER =
        List.of(Kind.class, Parrot.class, Grey.class, Cockatoo.class, Hawk.class, Green.class);

    private static final class Bird {
        Kind kind;
        int perch;
        boolean covered;
        final Map<Integer, Integer> knows = new HashMap<>();

        int knows(int word) {
            return knows.getOrDefault(word, 0);
        }

        void know(int word, int by) {
            knows.put(word, Math.max(0, Math.min(9, by)));
        }
    }

    private static final class Man {
        TreeSet<Integer> has = new TreeSet<>();
        int bird = NONE;
    }

    private static final class State {
        final List<Bird> birds = new ArrayList<>();
        final List<Man> men = new ArrayList<>();
        int evening;

        State copy() {
            State s = new State();
            for (Bird b : birds) {
                Bird c = new Bird();
                c.kind = b.kind;
                c.perch = b.perch;
                c.covered = b.covered;
                c.knows.putAll(b.knows);
                s.birds.add(c);
            }
            for (Man m : men) {
                Man c = new Man();
                c.has.addAll(m.has);
                c.bird = m.bird;
                s.men.add(c);
            }
            s.evening = evening;
            return s;
        }

        void set(int man, int bird) {
            for (Man m : men) {
                if (m.bird == bird) {
                    m.bird = NONE;
                }
            }
            men.get(man).bird = bird;
        }

        List<List<Integer>> pass() {
            for (Man m : men) {
                if (m.bird == NONE || m.has.isEmpty()) {
                    continue;
                }
                Bird b = birds.get(m.bird);
                if (!b.covered && b.kind.gets() != 0) {
                    int word = m.has.pollFirst();
                    b.know(word, b.knows(word) + b.kind.gets());
                }
            }
            List<List<Integer>> all = new ArrayList<>();
            for (int p = 0; p < 4; p++) {
                List<Bird> there = new ArrayList<>();
                for (Bird b : birds) {
                    if (b.perch == p && !b.covered) {
                        there.add(b);
                    }
                }
                all.add(speech(there));
            }
            if (evening % 3 == 2) {
                for (Bird b : birds) {
                    for (int w = 0; w < 10 && !b.covered; w++) {
                        if (b.knows(w) >= 1 && b.knows(w) <= 4) {
                            b.know(w, b.knows(w) - b.kind.loses());
                        }
                    }
                }
            }
            evening++;
            return all;
        }

        private static List<Integer> speech(List<Bird> there) {
            List<Integer> said = new ArrayList<>();
            for (Bird b : there) {
                if (b.kind.silences()) {
                    return said;
                }
            }
            for (Bird b : there) {
                List<Integer> words = new ArrayList<>();
                for (int w = 0; w < 10; w++) {
                    if (b.knows(w) > 0) {
                        words.add(w);
                    }
                }
                words.sort((v, w) -> b.knows(v) != b.knows(w) ? b.knows(w) - b.knows(v) : v - w);
                for (int w : words.subList(0, Math.min(words.size(), b.kind.says()))) {
                    said.add(w);
                    for (Bird o : there) {
                        if (o != b) {
                            o.know(w, o.knows(w) + o.kind.hears());
                        }
                    }
                }
            }
            return said;
        }
    }

    private State told = new State();
    private State now = new State();
    private final Deque<State> before = new ArrayDeque<>();
    private final State[] kept = new State[2];
    private final List<int[]> sightings = new ArrayList<>();
    private final Object[] reels = new Object[3];
    private String text = "";
    private Node grammar;
    private int grammarWords;

    // ---- texts

    private static final class Fault extends Exception {
        private static final long serialVersionUID = 1;
        final int place;

        Fault(int place) {
            this.place = place;
        }
    }

    private static final class Tokens {
        final List<String> all = new ArrayList<>();
        final List<Integer> places = new ArrayList<>();
        int at;

        Tokens(String text, String pattern) {
            Matcher m = Pattern.compile(pattern, Pattern.DOTALL).matcher(text);
            while (m.find()) {
                all.add(m.group());
                places.add(m.start());
            }
            all.add("");
            places.add(text.length());
        }

        String peek() {
            return all.get(at);
        }

        void check(boolean stands) throws Fault {
            if (!stands) {
                throw new Fault(places.get(at));
            }
        }

        String next(String pattern) throws Fault {
            check(peek().matches(pattern));
            return all.get(at++);
        }

        int number(int bound) throws Fault {
            check(peek().matches("[0-9]") && peek().charAt(0) - '0' < bound);
            return all.get(at++).charAt(0) - '0';
        }
    }

    private static int clauses(String text, State s) throws Fault {
        Tokens t = new Tokens(text, "[a-z]+|[0-9]+|[^ ]");
        int n = 0;
        do {
            clause(t, s);
            n++;
            t.check(t.peek().equals("") || t.peek().equals(";") && n < 20);
        } while (!t.all.get(t.at++).equals(""));
        return n;
    }

    private static void clause(Tokens t, State s) throws Fault {
        String word = t.peek();
        t.check(NAMES.contains(word) || List.of("harbour", "man", "knows", "sits", "cover").contains(word));
        t.check(!NAMES.contains(word) || s.birds.size() < 8);
        t.check(!word.equals("man") || s.men.size() < 4);
        t.at++;
        if (NAMES.contains(word)) {
            Bird b = new Bird();
            b.kind = KINDS.get(NAMES.indexOf(word));
            b.perch = t.number(4);
            s.birds.add(b);
        } else if (word.equals("harbour")) {
            s.birds.clear();
            s.men.clear();
        } else if (word.equals("man")) {
            Man m = new Man();
            for (char c : t.next("(?=.)a?b?c?d?e?f?g?h?i?j?").toCharArray()) {
                m.has.add(c - 'a');
            }
            s.men.add(m);
        } else if (word.equals("knows")) {
            Bird b = s.birds.get(t.number(s.birds.size()));
            int w = t.next("[a-j]").charAt(0) - 'a';
            b.know(w, t.number(10));
        } else if (word.equals("sits")) {
            int man = t.number(s.men.size());
            int bird = t.number(s.birds.size());
            for (int m = 0; m < s.men.size(); m++) {
                if (m != man && s.men.get(m).bird == bird) {
                    t.at--;
                    t.check(false);
                }
            }
            s.set(man, bird);
        } else {
            s.birds.get(t.number(s.birds.size())).covered = true;
        }
    }

    /** A sum (of rows), a row (of parts), a star (of one part), or a letter. */
    private static final class Node {
        final char what;
        final List<Node> parts = new ArrayList<>();

        Node(char what) {
            this.what = what;
        }

        boolean is(List<Integer> words, int i, int j, Map<List<Object>, Boolean> found) {
            List<Object> key = List.of(this, i, j);
            Boolean known = found.get(key);
            if (known == null) {
                known = find(words, i, j, found);
                found.put(key, known);
            }
            return known;
        }

        private boolean find(List<Integer> words, int i, int j, Map<List<Object>, Boolean> found) {
            switch (what) {
                case '|':
                    return parts.stream().anyMatch(p -> p.is(words, i, j, found));
                case '&':
                    return isRow(words, i, j, 0, found);
                case '*':
                    for (int k = i + 1; k <= j; k++) {
                        if (parts.get(0).is(words, i, k, found) && is(words, k, j, found)) {
                            return true;
                        }
                    }
                    return i == j;
                default:
                    return j == i + 1 && (what == '.' || words.get(i) == what - 'a');
            }
        }

        private boolean isRow(List<Integer> words, int i, int j, int part, Map<List<Object>, Boolean> found) {
            if (part == parts.size()) {
                return i == j;
            }
            List<Object> key = List.of(this, i, j, part);
            Boolean known = found.get(key);
            if (known == null) {
                known = false;
                for (int k = i; k <= j && !known; k++) {
                    known = parts.get(part).is(words, i, k, found) && isRow(words, k, j, part + 1, found);
                }
                found.put(key, known);
            }
            return known;
        }
    }

    private static Node sum(Tokens t, int depth) throws Fault {
        Node sum = new Node('|');
        sum.parts.add(row(t, depth));
        while (t.peek().equals("|")) {
            t.at++;
            sum.parts.add(row(t, depth));
        }
        return sum;
    }

    private static Node row(Tokens t, int depth) throws Fault {
        Node row = new Node('&');
        do {
            row.parts.add(part(t, depth));
        } while (t.peek().matches("[a-j.(]"));
        return row;
    }

    private static Node part(Tokens t, int depth) throws Fault {
        t.check(t.peek().matches("[a-j.(]") && !(t.peek().equals("(") && depth == 6));
        char c = t.all.get(t.at++).charAt(0);
        Node part;
        if (c == '(') {
            part = sum(t, depth + 1);
            t.next("\\)");
        } else {
            part = new Node(c);
        }
        if (!t.peek().equals("*")) {
            return part;
        }
        t.at++;
        Node star = new Node('*');
        star.parts.add(part);
        return star;
    }

    private static Node grammarOf(String text) throws Fault {
        Tokens t = new Tokens(text, "[^ ]");
        Node sum = sum(t, 0);
        t.check(t.peek().equals(""));
        return sum;
    }

    int write(int letter) {
        if (letter < 0 || letter > 255) {
            return OUTSIDE;
        }
        if (text.length() == 200) {
            return FULL;
        }
        text += (char) letter;
        return text.length();
    }

    int erase() {
        int n = text.length();
        text = "";
        return n;
    }

    int fault(int what) {
        if (what != 0 && what != 1) {
            return OUTSIDE;
        }
        try {
            if (what == 0) {
                clauses(text, told.copy());
            } else {
                grammarOf(text);
            }
            return NONE;
        } catch (Fault f) {
            return f.place;
        }
    }

    int harbour() {
        State s = told.copy();
        int n;
        try {
            n = clauses(text, s);
        } catch (Fault f) {
            return NOT;
        }
        told = s;
        now = s.copy();
        before.clear();
        kept[0] = null;
        kept[1] = null;
        sightings.clear();
        text = "";
        return n;
    }

    int tongue() {
        try {
            grammar = grammarOf(text);
        } catch (Fault f) {
            return NOT;
        }
        grammarWords = text.replaceAll("[^a-j.]", "").length();
        text = "";
        return grammarWords;
    }

    // ---- what is told

    private boolean isBird(int bird) {
        return bird >= 0 && bird < now.birds.size();
    }

    private boolean isMan(int man) {
        return man >= 0 && man < now.men.size();
    }

    private static boolean in(int v, int least, int most) {
        return v >= least && v <= most;
    }

    private static int bits(Iterable<Integer> numbers) {
        int all = 0;
        for (int n : numbers) {
            all |= 1 << n;
        }
        return all;
    }

    private static TreeSet<Integer> well(Bird b) {
        TreeSet<Integer> words = new TreeSet<>();
        for (int w = 0; w < 10; w++) {
            if (b.knows(w) >= 5) {
                words.add(w);
            }
        }
        return words;
    }

    private State later(int n) {
        State s = now.copy();
        for (int i = 0; i < n; i++) {
            s.pass();
        }
        return s;
    }

    int bird(int bird, int what) {
        if (!isBird(bird)) {
            return UNKNOWN;
        }
        if (!in(what, 0, 4)) {
            return OUTSIDE;
        }
        Bird b = now.birds.get(bird);
        int by = NONE;
        for (int m = 0; m < now.men.size(); m++) {
            by = now.men.get(m).bird == bird ? m : by;
        }
        return List.of(KINDS.indexOf(b.kind), b.perch, b.covered ? 1 : 0, by, bits(well(b))).get(what);
    }

    int man(int man, int what) {
        if (!isMan(man)) {
            return UNKNOWN;
        }
        if (!in(what, 0, 1)) {
            return OUTSIDE;
        }
        return what == 0 ? bits(now.men.get(man).has) : now.men.get(man).bird;
    }

    int known(int bird, int word, int n) {
        if (!isBird(bird) || !in(word, 0, 9)) {
            return UNKNOWN;
        }
        return in(n, 0, 60) ? later(n).birds.get(bird).knows(word) : OUTSIDE;
    }

    int as(int bird, int kind) {
        if (!isBird(bird)) {
            return UNKNOWN;
        }
        if (!in(kind, 0, 5)) {
            return OUTSIDE;
        }
        Kind own = now.birds.get(bird).kind;
        return OVER.get(kind).isInstance(own) ? own.gets() : NOT;
    }

    // ---- what is done

    private void remember() {
        before.push(now.copy());
        if (before.size() > 8) {
            before.removeLast();
        }
    }

    int evening(int n) {
        if (!in(n, 1, 12)) {
            return OUTSIDE;
        }
        if (now.evening + n > 999) {
            return FULL;
        }
        remember();
        now = later(n);
        return now.evening;
    }

    int teach(int bird, int word) {
        if (!isBird(bird) || !in(word, 0, 9)) {
            return UNKNOWN;
        }
        remember();
        Bird b = now.birds.get(bird);
        b.know(word, b.knows(word) + 3);
        return b.knows(word);
    }

    int moult(int bird) {
        if (!isBird(bird)) {
            return UNKNOWN;
        }
        remember();
        Bird b = now.birds.get(bird);
        int all = 0;
        for (int w = 0; w < 10; w++) {
            b.know(w, b.knows(w) / 2);
            all += b.knows(w);
        }
        return all;
    }

    int perch(int bird, int perch) {
        if (!isBird(bird) || !in(perch, 0, 3)) {
            return UNKNOWN;
        }
        int was = now.birds.get(bird).perch;
        if (was == perch) {
            return NOT;
        }
        remember();
        now.birds.get(bird).perch = perch;
        return was;
    }

    int cover(int bird) {
        if (!isBird(bird)) {
            return UNKNOWN;
        }
        remember();
        Bird b = now.birds.get(bird);
        b.covered = !b.covered;
        return b.covered ? 1 : 0;
    }

    int sit(int man, int bird) {
        if (!isMan(man) || !isBird(bird) && bird != NONE) {
            return UNKNOWN;
        }
        int was = now.men.get(man).bird;
        if (was == bird) {
            return NOT;
        }
        remember();
        now.set(man, bird);
        return was;
    }

    int undo() {
        if (before.isEmpty()) {
            return NOT;
        }
        now = before.pop();
        return before.size();
    }

    int keep(int k) {
        if (!in(k, 0, 1)) {
            return UNKNOWN;
        }
        kept[k] = now.copy();
        return now.evening;
    }

    int back(int k) {
        if (!in(k, 0, 1)) {
            return UNKNOWN;
        }
        if (kept[k] == null) {
            return NOT;
        }
        now = kept[k].copy();
        before.clear();
        return now.evening;
    }

    // ---- foretold

    int said(int perch, int i) {
        if (!in(perch, 0, 3)) {
            return UNKNOWN;
        }
        return in(i, 0, 15) ? wordOf(now.copy().pass().get(perch), i) : OUTSIDE;
    }

    private static int wordOf(List<Integer> words, int i) {
        return i < words.size() ? words.get(i) : NONE;
    }

    int when(int bird, int word, int k) {
        if (!isBird(bird) || !in(word, 0, 9)) {
            return UNKNOWN;
        }
        if (!in(k, 1, 9)) {
            return OUTSIDE;
        }
        for (int n = 0; n <= 60; n++) {
            if (known(bird, word, n) >= k) {
                return n;
            }
        }
        return NONE;
    }

    int keeps(int man, int bird, int n) {
        if (!isMan(man) || !isBird(bird)) {
            return UNKNOWN;
        }
        if (!in(n, 1, 20)) {
            return OUTSIDE;
        }
        State s = now.copy();
        s.set(man, bird);
        for (int i = 0; i < n; i++) {
            s.pass();
        }
        TreeSet<Integer> both = well(s.birds.get(bird));
        both.retainAll(now.men.get(man).has);
        return both.size();
    }

    int match(int n, int man) {
        if (man != NONE && !isMan(man)) {
            return UNKNOWN;
        }
        if (!in(n, 1, 20)) {
            return OUTSIDE;
        }
        int men = now.men.size();
        int birds = now.birds.size();
        int[][] keeps = new int[men][birds + 1];
        int choices = 1;
        for (int m = 0; m < men; m++) {
            for (int b = 0; b < birds; b++) {
                keeps[m][b] = keeps(m, b, n);
            }
            choices *= birds + 1;
        }
        int most = NONE;
        int[] best = {};
        for (int c = 0; c < choices; c++) {
            int[] digits = new int[men];
            int rest = c;
            int together = 0;
            int used = 0;
            boolean twice = false;
            for (int m = men - 1; m >= 0; m--) {
                digits[m] = rest % (birds + 1);
                rest /= birds + 1;
                together += keeps[m][digits[m]];
                twice |= digits[m] < birds && (used >> digits[m] & 1) == 1;
                used |= 1 << digits[m];
            }
            if (!twice && together > most) {
                most = together;
                best = digits;
            }
        }
        if (man == NONE) {
            return most;
        }
        return best[man] == birds ? NONE : best[man];
    }

    int clean(int bird, int word, int n) {
        if (!isBird(bird) || !in(word, 0, 9)) {
            return UNKNOWN;
        }
        if (!in(n, 1, 20)) {
            return OUTSIDE;
        }
        int best = NONE;
        for (int set = 0; set < 1 << now.birds.size(); set++) {
            boolean fewer = best == NONE || Integer.bitCount(set) < Integer.bitCount(best);
            if (fewer && staysClean(bird, word, n, set)) {
                best = set;
            }
        }
        return best;
    }

    private boolean staysClean(int bird, int word, int n, int set) {
        State s = now.copy();
        for (int b = 0; b < s.birds.size(); b++) {
            if ((set >> b & 1) == 1) {
                if (b == bird || s.birds.get(b).covered) {
                    return false;
                }
                s.birds.get(b).covered = true;
            }
        }
        for (int i = 0; i < n; i++) {
            s.pass();
        }
        return s.birds.get(bird).knows(word) < 5;
    }

    int of(int perch, int what) {
        if (!in(perch, 0, 3)) {
            return UNKNOWN;
        }
        if (!in(what, 0, 1)) {
            return OUTSIDE;
        }
        if (grammar == null) {
            return NOT;
        }
        List<Integer> words = now.copy().pass().get(perch);
        Map<List<Object>, Boolean> found = new HashMap<>();
        if (what == 0) {
            return grammar.is(words, 0, words.size(), found) ? 1 : 0;
        }
        int longest = words.size();
        while (longest >= 0 && !grammar.is(words, 0, longest, found)) {
            longest--;
        }
        return longest;
    }

    int left(int word, int q, int part) {
        if (!in(word, 0, 9)) {
            return UNKNOWN;
        }
        if (!in(q, 0, 10) || !in(part, 0, 1)) {
            return OUTSIDE;
        }
        int birds = 0;
        for (Bird b : now.birds) {
            birds += b.knows(word) >= 5 ? 1 : 0;
        }
        if (birds == 0) {
            return part;
        }
        BigInteger below = BigInteger.TEN.pow(birds);
        BigInteger above = below.subtract(BigInteger.valueOf(q).pow(birds));
        return (part == 0 ? above : below).divide(above.gcd(below)).intValueExact();
    }

    // ---- what was seen

    int seen(int perch, int i, int word) {
        if (!in(perch, 0, 3) || !in(word, NONE, 9)) {
            return UNKNOWN;
        }
        if (!in(i, 0, 9)) {
            return OUTSIDE;
        }
        if (sightings.size() == 6) {
            return FULL;
        }
        sightings.add(new int[] {perch, i, word});
        return sightings.size();
    }

    int forget() {
        int n = sightings.size();
        sightings.clear();
        return n;
    }

    int kinds(int bird) {
        if (!isBird(bird)) {
            return UNKNOWN;
        }
        TreeSet<Integer> fitting = new TreeSet<>();
        for (int k = 0; k < 5; k++) {
            State s = now.copy();
            s.birds.get(bird).kind = KINDS.get(k);
            List<List<Integer>> said = s.pass();
            if (sightings.stream().allMatch(v -> wordOf(said.get(v[0]), v[1]) == v[2])) {
                fitting.add(k);
            }
        }
        return bits(fitting);
    }

    // ---- reels: here the machine itself finds what is wrong

    int reel(int reel, int sort, int n) {
        if (!in(reel, 0, 2)) {
            return UNKNOWN;
        }
        if (!in(sort, 0, 3) || n > 12) {
            return OUTSIDE;
        }
        try {
            Object row = sort == 0 ? new byte[n] : sort == 1 ? new short[n] : sort == 2 ? new int[n] : new Integer[n];
            reels[reel] = row;
            return n;
        } catch (NegativeArraySizeException e) {
            return SIZE;
        }
    }

    private static int finding(RuntimeException e) {
        return e instanceof NullPointerException ? NULL : e instanceof ClassCastException ? CAST
            : e instanceof ArrayStoreException ? STORE : INDEX;
    }

    int record(int reel, int sort, int i, int v) {
        if (!in(reel, 0, 2) || sort == 3 && v != NONE && !isBird(v)) {
            return UNKNOWN;
        }
        if (!in(sort, 0, 3)) {
            return OUTSIDE;
        }
        try {
            switch (sort) {
                case 0:
                    ((byte[]) reels[reel])[i] = (byte) v;
                    return (byte) v + 100000;
                case 1:
                    ((short[]) reels[reel])[i] = (short) v;
                    return (short) v + 100000;
                case 2:
                    ((int[]) reels[reel])[i] = v;
                    return 1;
                default:
                    ((Integer[]) reels[reel])[i] = v == NONE ? null : (Integer) v;
                    return v;
            }
        } catch (NullPointerException | ClassCastException | ArrayIndexOutOfBoundsException e) {
            return finding(e);
        }
    }

    int play(int reel, int sort, int i) {
        if (!in(reel, 0, 2)) {
            return UNKNOWN;
        }
        if (!in(sort, 0, 3)) {
            return OUTSIDE;
        }
        try {
            switch (sort) {
                case 0:
                    return ((byte[]) reels[reel])[i] + 100000;
                case 1:
                    return ((short[]) reels[reel])[i] + 100000;
                case 2:
                    long v = ((int[]) reels[reel])[i];
                    return (int) (v >= 0 ? v % 1000003 : (-v - 1) % 1000003 + 2000000);
                default:
                    Integer bird = ((Integer[]) reels[reel])[i];
                    return bird == null ? EMPTY : bird;
            }
        } catch (NullPointerException | ClassCastException | ArrayIndexOutOfBoundsException e) {
            return finding(e);
        }
    }

    int splice(int from, int i, int to, int j, int n) {
        if (!in(from, 0, 2) || !in(to, 0, 2)) {
            return UNKNOWN;
        }
        try {
            System.arraycopy(reels[from], i, reels[to], j, n);
            return n;
        } catch (NullPointerException | ArrayStoreException | IndexOutOfBoundsException e) {
            return finding(e);
        }
    }

    int drop(int reel) {
        if (!in(reel, 0, 2)) {
            return UNKNOWN;
        }
        if (reels[reel] == null) {
            return NULL;
        }
        int n = java.lang.reflect.Array.getLength(reels[reel]);
        reels[reel] = null;
        return n;
    }

    int count(int what) {
        int[] all = new int[10];
        all[0] = now.birds.size();
        all[1] = now.men.size();
        all[2] = now.evening;
        for (int b = 0; b < now.birds.size(); b++) {
            all[3] |= now.birds.get(b).covered ? 1 << b : 0;
            all[9] |= bits(well(now.birds.get(b)));
        }
        for (Man m : now.men) {
            all[4] += m.has.size();
        }
        all[5] = sightings.size();
        for (Object reel : reels) {
            all[6] += reel != null ? 1 : 0;
        }
        all[7] = before.size();
        all[8] = text.length();
        return in(what, 0, 9) ? all[what] : OUTSIDE;
    }
}
