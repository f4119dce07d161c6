import java.util.ArrayDeque;
import java.util.ArrayList;
import java.util.HashMap;
import java.util.List;
import java.util.Map;
import java.util.Random;
import java.util.regex.Matcher;
import java.util.regex.Pattern;

/** Long runs of random calls on WeatherHand and on a second, slow model of the document: all answers must agree. */
public final class ModelRuns {
    private static final int RUNS = 6000;
    /** What an object answers later is free. */
    private static final int CALLS = 512;
    /** Some runs end earlier, so that there is room to look through all that is there. */
    private static final int CALLS_OF_A_SHORT_RUN = 250;
    private static final int NONE = -1;
    private static final int UNKNOWN = -1000000001;
    private static final int OUTSIDE = -1000000002;
    private static final int NOT = -1000000003;
    private static final int FULL = -1000000004;

    record Letter(int hour, int hand, int air) { }

    record Hand(int lean, int fill, int press) { }

    record Entry(int paper, int place, int look) { }

    record Token(char kind, int value, int at, int figures) { }

    /** Papers and bottle; copied whole for each deed and image. */
    static final class State {
        List<List<Letter>> papers = new ArrayList<>();
        int bottle = NONE;
        long seed = 0;

        State copy() {
            State s = new State();
            for (List<Letter> p : papers) {
                s.papers.add(new ArrayList<>(p));
            }
            s.bottle = bottle;
            s.seed = seed;
            return s;
        }
    }

    static final class Fault extends RuntimeException {
        private static final long serialVersionUID = 1L;
        final int kind;
        final int at;

        Fault(int kind, int at) {
            this.kind = kind;
            this.at = at;
        }
    }

    /** What a text tells; made by patterns over tokens, not letter by letter. */
    static final class Told {
        boolean there;
        int w;
        int d;
        int l;
        List<Integer> rain = new ArrayList<>();
        List<Hand> hands = new ArrayList<>();
        List<int[]> papers = new ArrayList<>();

        static List<Token> tokens(String text) {
            List<Token> out = new ArrayList<>();
            Matcher m = Pattern.compile("[0-9]+|[^ ]", Pattern.DOTALL).matcher(text);
            while (m.find()) {
                String s = m.group();
                boolean number = s.charAt(0) >= '0' && s.charAt(0) <= '9';
                int value = number && s.length() <= 3 ? Integer.parseInt(s) : 0;
                out.add(new Token(number ? '#' : s.charAt(0) == '#' ? '!' : s.charAt(0), value, m.start(), s.length()));
            }
            out.add(new Token('$', 0, text.length(), 0));
            return out;
        }

        static Told of(String text) {
            Told told = new Told();
            List<Token> tokens = tokens(text);
            int k = 0;
            // a dollar sign within the text is no end: only the last token is
            while (k < tokens.size() - 1) {
                Token word = tokens.get(k);
                boolean known = "vdhp".indexOf(word.kind()) >= 0;
                if (!known || !told.there && word.kind() != 'v') {
                    throw new Fault(1, word.at());
                }
                if (word.kind() == 'v' && told.there || word.kind() == 'd' && !told.rain.isEmpty()
                        || word.kind() == 'h' && told.hands.size() == 4 || word.kind() == 'p' && told.papers.size() == 4) {
                    throw new Fault(3, word.at());
                }
                k = told.clause(tokens, k + 1, word.kind());
            }
            return told;
        }

        private int clause(List<Token> tokens, int k, char word) {
            if (word == 'd') {
                rain.add(number(tokens, k, 0, 9));
                k++;
                while (tokens.get(k).kind() == ',' && rain.size() < 8) {
                    rain.add(number(tokens, k + 1, 0, 9));
                    k += 2;
                }
            } else {
                int[][] bounds = word == 'v' ? new int[][] {{0, 7}, {0, 9}, {0, 12}}
                        : word == 'h' ? new int[][] {{0, 8}, {0, 8}, {0, 8}}
                        : new int[][] {{0, hands.size() - 1}, {0, 95}, {1, 12}};
                int[] got = new int[3];
                for (int n = 0; n < 3; n++) {
                    got[n] = number(tokens, k, bounds[n][0], bounds[n][1]);
                    k++;
                }
                if (word == 'v') {
                    there = true;
                    w = got[0];
                    d = got[1];
                    l = got[2];
                } else if (word == 'h') {
                    hands.add(new Hand(got[0], got[1], got[2]));
                } else {
                    papers.add(got);
                }
            }
            if (tokens.get(k).kind() != ';') {
                throw new Fault(1, tokens.get(k).at());
            }
            return k + 1;
        }

        private static int number(List<Token> tokens, int k, int least, int most) {
            Token t = tokens.get(k);
            if (t.kind() != '#') {
                throw new Fault(1, t.at());
            }
            if (t.figures() > 3 || t.value() < least || t.value() > most) {
                throw new Fault(2, t.at());
            }
            return t.value();
        }
    }

    static final class Model {
        StringBuilder text = new StringBuilder();
        Told told = new Told();
        State now = new State();
        State[] images = new State[2];
        ArrayDeque<State> before = new ArrayDeque<>();
        List<Entry> book = new ArrayList<>();
        boolean[][] measured = new boolean[4][12];
        int faultAt = NONE;

        int wind(int t) {
            int wind = 0;
            for (int k = 0; k < t; k++) {
                wind = (wind + told.w) % 8;
            }
            return wind;
        }

        int light(int t) {
            return t - t / 12 * 12 < told.l ? 1 : 0;
        }

        int rainOf(int day) {
            return told.rain.isEmpty() ? 0 : told.rain.get(day % told.rain.size());
        }

        int damp(int t, int rain) {
            int damp = told.d + rain;
            for (int k = t / 12 * 12; k <= t; k++) {
                damp += light(k) == 0 ? 1 : 0;
            }
            return damp > 19 ? 19 : damp;
        }

        int lookWith(int h, int t, int rain) {
            Hand hand = told.hands.get(h);
            int lean = (hand.lean() + wind(t)) % 9;
            int full = hand.fill() + damp(t, rain) / 2;
            int thick = hand.press() + (light(t) == 1 ? 0 : 2);
            return lean * 1000 + (full > 15 ? 15 : full) * 10 + (thick > 9 ? 9 : thick);
        }

        final Map<Integer, Integer> looksMade = new HashMap<>();

        int lookOf(int h, int t) {
            return looksMade.computeIfAbsent(h * 96 + t, key -> lookWith(h, t, rainOf(t / 12)));
        }

        int lookOf(Letter x) {
            return lookOf(x.hand(), x.air() == NONE ? x.hour() : x.air());
        }

        boolean noPaper(int p) {
            return p < 0 || p >= now.papers.size();
        }

        boolean noHand(int h) {
            return h < 0 || h >= told.hands.size();
        }

        boolean noLetter(int p, int l) {
            return noPaper(p) || l < 0 || l >= now.papers.get(p).size();
        }

        static boolean noHour(int t) {
            return t < 0 || t > 95;
        }

        int all() {
            return now.papers.stream().mapToInt(List::size).sum();
        }

        void deed() {
            before.addLast(now.copy());
            if (before.size() > 30) {
                before.removeFirst();
            }
        }

        int feed(int c) {
            if (c < 0 || c > 255) {
                return OUTSIDE;
            }
            if (text.length() == 230) {
                return FULL;
            }
            return text.append((char) c).length();
        }

        int valley() {
            String s = text.toString();
            text = new StringBuilder();
            Told read;
            try {
                read = Told.of(s);
            } catch (Fault f) {
                faultAt = f.at;
                return -10 - f.kind;
            }
            faultAt = NONE;
            told = read;
            looksMade.clear();
            long seed = now.seed;
            now = new State();
            now.seed = seed;
            for (int[] p : told.papers) {
                List<Letter> row = new ArrayList<>();
                for (int k = 0; k < p[2]; k++) {
                    if (p[1] + k <= 95) {
                        row.add(new Letter(p[1] + k, p[0], NONE));
                    }
                }
                now.papers.add(row);
            }
            images = new State[2];
            before.clear();
            book.clear();
            measured = new boolean[4][12];
            return told.papers.size();
        }

        int told(int what) {
            int[] answers = {told.there ? 1 : 0, told.w, told.d, told.l, told.hands.size(), told.papers.size(),
                text.length(), now.bottle, all(), book.size(), before.size()};
            return what < 0 || what > 10 ? OUTSIDE : answers[what];
        }

        int weather(int t, int what) {
            if (noHour(t) || what < 0 || what > 2) {
                return OUTSIDE;
            }
            if (!told.there) {
                return NOT;
            }
            return new int[] {wind(t), damp(t, rainOf(t / 12)), light(t)}[what];
        }

        int hand(int h, int what) {
            if (noHand(h)) {
                return UNKNOWN;
            }
            Hand x = told.hands.get(h);
            return what < 0 || what > 2 ? OUTSIDE : new int[] {x.lean(), x.fill(), x.press()}[what];
        }

        int letter(int p, int l, int what) {
            if (noPaper(p) || l != NONE && noLetter(p, l)) {
                return UNKNOWN;
            }
            List<Letter> row = now.papers.get(p);
            if (what < 0 || what > (l == NONE ? 1 : 4)) {
                return OUTSIDE;
            }
            if (l == NONE) {
                return what == 0 ? row.size() : (int) row.stream().filter(x -> x.air() != NONE).count();
            }
            Letter x = row.get(l);
            return new int[] {lookOf(x), x.hour(), x.hand(), measured[p][l] ? 1 : 0, x.air() == NONE ? 0 : 1}[what];
        }

        int add(int p, int h, int t, boolean bottled) {
            if (noPaper(p) || noHand(h)) {
                return UNKNOWN;
            }
            if (noHour(t)) {
                return OUTSIDE;
            }
            if (bottled && now.bottle == NONE) {
                return NOT;
            }
            if (now.papers.get(p).size() == 12) {
                return FULL;
            }
            deed();
            now.papers.get(p).add(new Letter(t, h, bottled ? now.bottle : NONE));
            return now.papers.get(p).size();
        }

        int blot(int p) {
            if (noPaper(p)) {
                return UNKNOWN;
            }
            List<Letter> row = now.papers.get(p);
            if (row.isEmpty()) {
                return NOT;
            }
            deed();
            return lookOf(now.papers.get(p).remove(row.size() - 1));
        }

        int bottle(int t) {
            if (t != NONE && noHour(t)) {
                return OUTSIDE;
            }
            if (!told.there) {
                return NOT;
            }
            deed();
            int was = now.bottle;
            now.bottle = t;
            return was;
        }

        int draw(int n) {
            now.seed = (now.seed * 1103515245L + 12345L) & 0x7fffffffL;
            return (int) ((now.seed >> 16) % n);
        }

        int drift(int n) {
            if (n < 1 || n > 30) {
                return OUTSIDE;
            }
            if (told.hands.isEmpty() || told.papers.isEmpty()) {
                return NOT;
            }
            for (int k = 0; k < n; k++) {
                int p = draw(told.papers.size());
                int h = draw(told.hands.size());
                int t = draw(96);
                add(p, h, t, false);
            }
            return all();
        }

        int undo(int n) {
            if (n < 1 || n > 30) {
                return OUTSIDE;
            }
            if (n > before.size()) {
                return NOT;
            }
            long seed = now.seed;
            for (int k = 0; k < n; k++) {
                now = before.removeLast();
            }
            now.seed = seed;
            return all();
        }

        int look(int h, int t) {
            return noHand(h) ? UNKNOWN : noHour(t) ? OUTSIDE : lookOf(h, t);
        }

        List<Integer> hoursOf(int h, int look) {
            List<Integer> out = new ArrayList<>();
            for (int t = 0; t < 96; t++) {
                if (lookOf(h, t) == look) {
                    out.add(t);
                }
            }
            return out;
        }

        static int pick(List<Integer> list, int i) {
            return i == NONE ? list.size() : i >= 0 && i < list.size() ? list.get(i) : NONE;
        }

        int written(int p, int l, int h, int i) {
            return noLetter(p, l) || noHand(h) ? UNKNOWN : pick(hoursOf(h, lookOf(now.papers.get(p).get(l))), i);
        }

        int who(int p, int l) {
            if (noLetter(p, l)) {
                return UNKNOWN;
            }
            int set = 0;
            for (int h = 0; h < told.hands.size(); h++) {
                set += hoursOf(h, lookOf(now.papers.get(p).get(l))).isEmpty() ? 0 : 1 << h;
            }
            return set;
        }

        /** Whether letters a to b (b not) could be a row by the hand from t on. */
        boolean isRow(List<Letter> row, int a, int b, int h, int t) {
            if (t + (b - a) > 96) {
                return false;
            }
            for (int l = a; l < b; l++) {
                if (lookOf(row.get(l)) != lookOf(h, t + l - a)) {
                    return false;
                }
            }
            return true;
        }

        boolean isRowSometime(List<Letter> row, int a, int b, int h) {
            for (int t = 0; t < 96; t++) {
                if (isRow(row, a, b, h, t)) {
                    return true;
                }
            }
            return false;
        }

        int dated(int p, int h, int what) {
            if (noPaper(p) || noHand(h)) {
                return UNKNOWN;
            }
            if (what < 0 || what > 2) {
                return OUTSIDE;
            }
            List<Integer> fits = new ArrayList<>();
            List<Letter> row = now.papers.get(p);
            for (int t = 0; t < 96; t++) {
                if (isRow(row, 0, row.size(), h, t)) {
                    fits.add(t);
                }
            }
            return what == 0 ? fits.size() : fits.isEmpty() ? NONE : fits.get(what == 1 ? 0 : fits.size() - 1);
        }

        int addedAt(int p, int h, int what) {
            if (noPaper(p) || noHand(h)) {
                return UNKNOWN;
            }
            if (what < 0 || what > 1) {
                return OUTSIDE;
            }
            List<Letter> row = now.papers.get(p);
            int n = row.size();
            if (what == 0) {
                int most = 0;
                for (int b = 1; b <= n; b++) {
                    most = isRowSometime(row, 0, b, h) ? b : most;
                }
                return most;
            }
            int[] cuts = new int[n + 1];
            for (int b = 1; b <= n; b++) {
                cuts[b] = 1000;
                for (int a = 0; a < b; a++) {
                    if (cuts[a] < 1000 && isRowSometime(row, a, b, h)) {
                        cuts[b] = Math.min(cuts[b], cuts[a] + 1);
                    }
                }
            }
            return cuts[n] >= 1000 ? NONE : cuts[n];
        }

        int next(int p, int what) {
            if (noPaper(p)) {
                return UNKNOWN;
            }
            if (what < 0 || what > 1) {
                return OUTSIDE;
            }
            List<Letter> row = now.papers.get(p);
            List<int[]> begins = new ArrayList<>();
            for (int h = 0; h < told.hands.size(); h++) {
                for (int t = 0; t < 96; t++) {
                    boolean fits = t + row.size() <= 96;
                    for (int l = 0; fits && l < row.size(); l++) {
                        fits = !measured[p][l] || lookOf(row.get(l)) == lookOf(h, t + l);
                    }
                    if (fits) {
                        begins.add(new int[] {h, t});
                    }
                }
            }
            if (what == 0) {
                return begins.size();
            }
            int best = NONE;
            int bestPart = begins.size();
            for (int l = row.size() - 1; l >= 0; l--) {
                Map<Integer, Integer> parts = new HashMap<>();
                int greatest = 0;
                for (int[] b : begins) {
                    greatest = Math.max(greatest, parts.merge(lookOf(b[0], b[1] + l), 1, Integer::sum));
                }
                if (parts.size() > 1 && greatest <= bestPart) {
                    bestPart = greatest;
                    best = l;
                }
            }
            return best;
        }

        int soonest(int h, int look, int t) {
            if (noHand(h)) {
                return UNKNOWN;
            }
            if (look < 0 || look > 9999 || noHour(t)) {
                return OUTSIDE;
            }
            return hoursOf(h, look).stream().filter(u -> u >= t).findFirst().orElse(NONE);
        }

        int likely(int h, int look) {
            if (noHand(h)) {
                return UNKNOWN;
            }
            return look < 0 || look > 9999 ? OUTSIDE : (int) (hoursOf(h, look).size() * 1000000L / 96);
        }

        int bestLikeness;
        int[] bestHands;

        void assign(int p, int[] chosen, int sum) {
            if (p == now.papers.size()) {
                if (sum > bestLikeness) {
                    bestLikeness = sum;
                    bestHands = chosen.clone();
                }
                return;
            }
            for (int h = 0; h < told.hands.size(); h++) {
                boolean free = true;
                for (int q = 0; q < p; q++) {
                    free &= chosen[q] != h;
                }
                if (free) {
                    int many = 0;
                    for (Letter x : now.papers.get(p)) {
                        many += lookOf(x) == lookOf(h, x.hour()) ? 1 : 0;
                    }
                    chosen[p] = h;
                    assign(p + 1, chosen, sum + many);
                }
            }
        }

        int hands(int p) {
            if (p != NONE && noPaper(p)) {
                return UNKNOWN;
            }
            if (now.papers.size() > told.hands.size()) {
                return NONE;
            }
            bestLikeness = -1;
            assign(0, new int[4], 0);
            return p == NONE ? bestLikeness : bestHands[p];
        }

        int forged(int p, int what) {
            if (noPaper(p)) {
                return UNKNOWN;
            }
            if (what < 0 || what > 1) {
                return OUTSIDE;
            }
            int passes = 0;
            int caught = 0;
            List<Letter> row = now.papers.get(p);
            for (int l = 0; l < row.size(); l++) {
                Letter x = row.get(l);
                if (x.air() != NONE) {
                    boolean same = lookOf(x.hand(), x.air()) == lookOf(x.hand(), x.hour());
                    passes += same ? 1 : 0;
                    caught += same ? 0 : 1 << l;
                }
            }
            return what == 0 ? passes : caught;
        }

        int air(int h, int t, int i) {
            return noHand(h) ? UNKNOWN : noHour(t) ? OUTSIDE : pick(hoursOf(h, lookOf(h, t)), i);
        }

        int rain(int day) {
            if (day < 0 || day > 7) {
                return OUTSIDE;
            }
            if (!told.there) {
                return NOT;
            }
            int set = 1023;
            for (List<Letter> row : now.papers) {
                for (Letter x : row) {
                    for (int r = 0; r < 10 && x.air() == NONE && x.hour() / 12 == day; r++) {
                        if (lookWith(x.hand(), x.hour(), r) != lookOf(x)) {
                            set &= ~(1 << r);
                        }
                    }
                }
            }
            return set;
        }

        int measuredOf(int p) {
            int many = 0;
            for (boolean b : measured[p]) {
                many += b ? 1 : 0;
            }
            return many;
        }

        int measure(int p, int l) {
            if (noLetter(p, l)) {
                return UNKNOWN;
            }
            measured[p][l] = true;
            return measuredOf(p);
        }

        int write(int p, int l, int look) {
            if (noPaper(p) || l < 0 || l > 11) {
                return UNKNOWN;
            }
            if (look < 0 || look > 9999) {
                return OUTSIDE;
            }
            if (book.size() == 20) {
                return FULL;
            }
            book.add(new Entry(p, l, look));
            return book.size();
        }

        int judge() {
            for (int e = 0; e < book.size(); e++) {
                Entry x = book.get(e);
                if (noLetter(x.paper(), x.place()) || lookOf(now.papers.get(x.paper()).get(x.place())) != x.look()) {
                    return e;
                }
            }
            return NONE;
        }

        int tear() {
            int had = book.size() + measuredOf(0) + measuredOf(1) + measuredOf(2) + measuredOf(3);
            book.clear();
            measured = new boolean[4][12];
            return had;
        }

        int seed(int v) {
            if (v < 0) {
                return OUTSIDE;
            }
            int was = (int) now.seed;
            now.seed = v;
            return was;
        }

        int keep(int i) {
            if (i != 0 && i != 1) {
                return UNKNOWN;
            }
            images[i] = now.copy();
            before.clear();
            return 1;
        }

        int goBack(int i) {
            if (i != 0 && i != 1) {
                return UNKNOWN;
            }
            if (images[i] == null) {
                return NOT;
            }
            now = images[i].copy();
            before.clear();
            return 1;
        }
    }

    /** One run: the object, the model, and the calls so far for the report. */
    static final class Run {
        final Random random;
        final WeatherHand x = new WeatherHand();
        final Model m = new Model();
        final List<String> calls = new ArrayList<>();
        String wrong = null;

        Run(long number) {
            random = new Random(number);
        }

        void due(String call, int got, int want) {
            calls.add(call + " = " + want);
            if (got != want && wrong == null) {
                wrong = call + " answered " + got + ", the model says " + want;
            }
        }

        boolean hasRoom() {
            return calls.size() < CALLS;
        }

        int below(int n) {
            return random.nextInt(n);
        }

        /** Mostly within 0 .. n - 1, now and then at or beyond an edge. */
        int near(int n) {
            int way = below(24);
            if (way == 0) {
                int[] edges = {-1, n, -2, n + 1, Integer.MIN_VALUE, Integer.MAX_VALUE};
                return edges[below(edges.length)];
            }
            return n < 1 ? 0 : below(n);
        }

        int paper() {
            return near(m.now.papers.size());
        }

        int place(int p) {
            return near(m.noPaper(p) ? 12 : m.now.papers.get(p).size());
        }

        int someHand() {
            return near(m.told.hands.size());
        }

        int hour() {
            return near(96);
        }

        int someLook() {
            int way = below(8);
            if (way > 0 && !m.told.hands.isEmpty()) {
                return m.lookOf(below(m.told.hands.size()), below(96));
            }
            return near(10000);
        }

        String blanks() {
            return below(12) == 0 ? " ".repeat(1 + below(2)) : "";
        }

        String three(int a, int b, int c) {
            return blanks() + a + " " + blanks() + b + " " + c + blanks() + ";" + blanks();
        }

        String text() {
            StringBuilder s = new StringBuilder(blanks());
            boolean calm = below(3) == 0;
            s.append('v').append(three(calm ? below(2) * 4 : below(8), below(10), calm ? 12 * below(2) : below(13)));
            int hands = below(12) == 0 ? 0 : 1 + below(4);
            int papers = hands == 0 ? 0 : below(5);
            int small = calm ? 2 : 9;
            for (int h = 0; h < hands; h++) {
                s.append('h').append(three(below(small), below(small), below(small)));
            }
            if (below(4) > 0) {
                s.append('d').append(below(10));
                for (int r = below(8); r > 0; r--) {
                    s.append(',').append(blanks()).append(below(10));
                }
                s.append(';');
            }
            for (int p = 0; p < papers; p++) {
                s.append('p').append(three(below(hands), below(96), 1 + below(12)));
            }
            return s.toString();
        }

        String spoiled(String text) {
            String signs = "vdhp;, 0123456789;, x\u0000\u00ff$#";
            StringBuilder s = new StringBuilder(text);
            for (int k = 1 + below(3); k > 0 && s.length() > 0; k--) {
                int at = below(s.length());
                char sign = signs.charAt(below(signs.length()));
                switch (below(4)) {
                    case 0 -> s.setCharAt(at, sign);
                    case 1 -> s.insert(at, sign);
                    case 2 -> s.deleteCharAt(at);
                    default -> s.setLength(at);
                }
            }
            // the document does not say what a text of blanks alone is
            return s.toString().isBlank() ? "" : s.toString();
        }

        void feedAll(String text) {
            for (int k = 0; k < text.length() && hasRoom(); k++) {
                due("feed(" + (int) text.charAt(k) + ")", x.feed(text.charAt(k)), m.feed(text.charAt(k)));
            }
        }

        void becomesValley() {
            if (hasRoom() && !(m.text.length() > 0 && m.text.toString().isBlank())) {
                due("valley()", x.valley(), m.valley());
            }
            if (hasRoom()) {
                due("fault()", x.fault(), m.faultAt);
            }
        }

        void tellValley() {
            String text = text();
            int way = below(40);
            feedAll(way < 12 ? spoiled(text) : way == 12 ? "" : way == 13 ? text + " ".repeat(below(240)) : text);
            becomesValley();
        }

        void deed() {
            int p = paper();
            int h = someHand();
            int t = hour();
            switch (below(12)) {
                case 0, 1, 2, 3 -> due("add(" + p + ", " + h + ", " + t + ", false)", x.add(p, h, t, false), m.add(p, h, t, false));
                case 4, 5 -> due("add(" + p + ", " + h + ", " + t + ", true)", x.add(p, h, t, true), m.add(p, h, t, true));
                case 6, 7 -> due("blot(" + p + ")", x.blot(p), m.blot(p));
                case 8, 9 -> due("bottle(" + t + ")", x.bottle(t), m.bottle(t));
                case 10 -> {
                    int n = near(below(3) == 0 ? 31 : 5);
                    due("drift(" + n + ")", x.drift(n), m.drift(n));
                }
                default -> {
                    int n = near(below(3) == 0 ? 31 : 5);
                    due("undo(" + n + ")", x.undo(n), m.undo(n));
                }
            }
        }

        /** Letters one an hour behind a paper, so that rows and dates have something to find. */
        void addRow() {
            int p = paper();
            int h = someHand();
            int t = hour();
            for (int k = 1 + below(5); k > 0 && hasRoom(); k--) {
                due("add(" + p + ", " + h + ", " + t + ", false)", x.add(p, h, t, false), m.add(p, h, t, false));
                t = t >= 95 ? 0 : t + 1;
            }
        }

        void trial() {
            int p = paper();
            int l = place(p);
            int h = someHand();
            int t = hour();
            int look = someLook();
            int i = below(3) == 0 ? NONE : near(12);
            int what = near(3);
            switch (below(12)) {
                case 0 -> due("look(" + h + ", " + t + ")", x.look(h, t), m.look(h, t));
                case 1 -> due("written(" + p + ", " + l + ", " + h + ", " + i + ")", x.written(p, l, h, i), m.written(p, l, h, i));
                case 2 -> due("who(" + p + ", " + l + ")", x.who(p, l), m.who(p, l));
                case 3 -> due("dated(" + p + ", " + h + ", " + what + ")", x.dated(p, h, what), m.dated(p, h, what));
                case 4 -> due("addedAt(" + p + ", " + h + ", " + what + ")", x.addedAt(p, h, what), m.addedAt(p, h, what));
                case 5 -> due("next(" + p + ", " + what + ")", x.next(p, what), m.next(p, what));
                case 6 -> due("soonest(" + h + ", " + look + ", " + t + ")", x.soonest(h, look, t), m.soonest(h, look, t));
                case 7 -> due("likely(" + h + ", " + look + ")", x.likely(h, look), m.likely(h, look));
                case 8 -> {
                    int q = below(3) == 0 ? NONE : p;
                    due("hands(" + q + ")", x.hands(q), m.hands(q));
                }
                case 9 -> due("forged(" + p + ", " + what + ")", x.forged(p, what), m.forged(p, what));
                case 10 -> due("air(" + h + ", " + t + ", " + i + ")", x.air(h, t, i), m.air(h, t, i));
                default -> {
                    int day = near(8);
                    due("rain(" + day + ")", x.rain(day), m.rain(day));
                }
            }
        }

        void asked() {
            int p = paper();
            int l = below(4) == 0 ? NONE : place(p);
            int h = someHand();
            int t = hour();
            int what = near(5);
            int few = near(3);
            // the document does not say what W, D, L are without a valley
            int told = m.told.there ? near(11) : 4 + below(8);
            switch (below(4)) {
                case 0 -> due("told(" + told + ")", x.told(told), m.told(told));
                case 1 -> due("weather(" + t + ", " + few + ")", x.weather(t, few), m.weather(t, few));
                case 2 -> due("hand(" + h + ", " + few + ")", x.hand(h, few), m.hand(h, few));
                default -> due("letter(" + p + ", " + l + ", " + what + ")", x.letter(p, l, what), m.letter(p, l, what));
            }
        }

        void rest() {
            int p = paper();
            int l = place(p);
            int look = !m.noLetter(p, l) && below(3) > 0 ? m.lookOf(m.now.papers.get(p).get(l)) : someLook();
            int v = below(8) == 0 ? near(Integer.MAX_VALUE) : below(Integer.MAX_VALUE);
            int i = near(2);
            switch (below(10)) {
                case 0, 1 -> due("measure(" + p + ", " + l + ")", x.measure(p, l), m.measure(p, l));
                case 2, 3 -> {
                    int place = below(8) == 0 ? near(12) : l;
                    due("write(" + p + ", " + place + ", " + look + ")", x.write(p, place, look), m.write(p, place, look));
                }
                case 4, 5 -> due("judge()", x.judge(), m.judge());
                case 6 -> {
                    if (below(4) == 0) {
                        due("tear()", x.tear(), m.tear());
                    }
                }
                case 7 -> due("seed(" + v + ")", x.seed(v), m.seed(v));
                case 8 -> due("keep(" + i + ")", x.keep(i), m.keep(i));
                default -> due("goBack(" + i + ")", x.goBack(i), m.goBack(i));
            }
        }

        void step() {
            int way = below(200);
            if (way == 0 || calls.isEmpty() && below(4) > 0) {
                tellValley();
            } else if (way == 1) {
                int c = near(256);
                due("feed(" + c + ")", x.feed(c), m.feed(c));
            } else if (way < 60) {
                deed();
            } else if (way < 66) {
                addRow();
            } else if (way < 150) {
                trial();
            } else if (way < 175) {
                asked();
            } else {
                rest();
            }
        }

        /** All that can be asked of the letters, so that no hidden difference is left at the end. */
        void lookThrough() {
            for (int what = m.told.there ? 0 : 4; what <= 10 && hasRoom(); what++) {
                due("told(" + what + ")", x.told(what), m.told(what));
            }
            for (int p = 0; p < m.now.papers.size(); p++) {
                for (int l = 0; l < m.now.papers.get(p).size(); l++) {
                    for (int what = 0; what < 5 && hasRoom(); what++) {
                        due("letter(" + p + ", " + l + ", " + what + ")", x.letter(p, l, what), m.letter(p, l, what));
                    }
                }
            }
        }

        /** Many short texts on one object, each with what is wrong with it. */
        void onlyTexts() {
            for (int k = 0; k < 40 && hasRoom() && wrong == null; k++) {
                feedAll(spoiled(text()));
                becomesValley();
            }
        }

        void go(boolean texts, boolean isShort) {
            if (texts) {
                onlyTexts();
            }
            int most = isShort ? CALLS_OF_A_SHORT_RUN : CALLS;
            for (int k = 0; k < CALLS && !texts && calls.size() < most && wrong == null; k++) {
                step();
            }
            if (wrong == null) {
                lookThrough();
            }
        }
    }

    public static void main(String[] args) {
        Patience.begin();
        int wrong = 0;
        int calls = 0;
        for (int number = 0; number < RUNS && wrong < 5; number++) {
            Run run = new Run(number);
            run.go(number % 3 == 2, number % 2 == 1);
            calls += run.calls.size();
            if (run.wrong != null) {
                wrong++;
                System.out.println("run " + number + ", call " + run.calls.size() + ": " + run.wrong);
                int from = Math.max(0, run.calls.size() - 12);
                System.out.println("  " + run.calls.subList(from, run.calls.size()));
            }
        }
        System.out.println(wrong == 0 ? calls + " calls agree with the model" : wrong + " runs do not agree");
        if (wrong != 0) {
            System.exit(1);
        }
    }
}
