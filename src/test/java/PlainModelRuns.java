import java.util.ArrayList;
import java.util.Arrays;
import java.util.HashSet;
import java.util.List;
import java.util.Random;
import java.util.Set;

/**
 * Random runs of calls, each answered by WornWords and by a second, slow model of the document
 * that is written with Strings, lists and blunt copies and shares no code with the class.
 */
public final class PlainModelRuns {
    private static final int RUNS = 3000;
    private static final int CALLS = 170;
    private static final int[] FAR = {Integer.MIN_VALUE, Integer.MIN_VALUE + 1, Integer.MAX_VALUE, Integer.MAX_VALUE - 1, 1 << 30, -32, 12, 31, 32, 33, 63, 64, 65536};

    public static void main(String[] args) {
        int runs = args.length > 0 ? Integer.parseInt(args[0]) : RUNS;
        long from = args.length > 1 ? Long.parseLong(args[1]) : 0;
        int wrong = 0;
        for (long seed = from; seed < from + runs && wrong < 5; seed++) {
            wrong += new Run(seed).play() ? 0 : 1;
        }
        System.out.println(wrong == 0 ? "all runs answer as the plain model does" : wrong + " runs differ from the plain model");
        if (wrong != 0) {
            System.exit(1);
        }
    }

    // ------------------------------------------------------------------ the model

    interface Cond {
        boolean holds(W w, int day);
    }

    record Rule(Cond cond, String which) {
    }

    static final class W {
        String form;
        String first;
        int set;
        int said = 0;
        int latest = -1;
        boolean since = false;
        List<String> before = new ArrayList<>();   // the FORMS ahead of each letter lost

        W(String form, int set) {
            this.form = form;
            this.first = form;
            this.set = set;
        }

        W copy() {
            W w = new W(form, set);
            w.first = first;
            w.said = said;
            w.latest = latest;
            w.since = since;
            w.before = new ArrayList<>(before);
            return w;
        }

        boolean gone() {
            return form.isEmpty();
        }

        void vanish() {
            form = "";
            set = 0;
            before.clear();
        }
    }

    static final class V {
        List<W> words = new ArrayList<>();
        int meanings = 0;
        int speakers = 0;
        int day = 0;
        String order = "abcdefghijklmnopqrstuvwxyz";
        String[][] known = new String[4][12];
        List<Rule> rules = new ArrayList<>();

        V copy() {
            V v = new V();
            for (W w : words) {
                v.words.add(w.copy());
            }
            v.meanings = meanings;
            v.speakers = speakers;
            v.day = day;
            v.order = order;
            for (int s = 0; s < 4; s++) {
                v.known[s] = known[s].clone();
            }
            v.rules = rules;
            return v;
        }

        int lose(W w, int onDay) {
            String f = w.form;
            int n = f.length();
            for (Rule rule : rules) {
                if (!rule.cond.holds(w, onDay)) {
                    continue;
                }
                switch (rule.which) {
                    case "first":
                        return 0;
                    case "last":
                        return n - 1;
                    case "middle":
                        return n / 2;
                    case "none":
                        return -1;
                    case "vowel":
                        for (int k = n - 1; k >= 0; k--) {
                            if ("aeiou".indexOf(f.charAt(k)) >= 0) {
                                return k;
                            }
                        }
                        return n - 1;
                    case "soft":
                        for (char c : order.toCharArray()) {
                            if (f.indexOf(c) >= 0) {
                                return f.indexOf(c);
                            }
                        }
                        throw new IllegalStateException();
                    default:
                        for (int k = 25; k >= 0; k--) {
                            if (f.lastIndexOf(order.charAt(k)) >= 0) {
                                return f.lastIndexOf(order.charAt(k));
                            }
                        }
                        throw new IllegalStateException();
                }
            }
            return n - 1;
        }

        /** wears a word without asking for others; 1 if a letter went */
        int wear(W w, int onDay) {
            int place = lose(w, onDay);
            w.said++;
            w.latest = onDay;
            w.since = true;
            if (place >= 0) {
                w.before.add(w.form);
                w.form = w.form.substring(0, place) + w.form.substring(place + 1);
            }
            if (w.gone()) {
                w.vanish();
            }
            return place >= 0 ? 1 : 0;
        }

        int say(int word) {
            W w = words.get(word);
            int lost = wear(w, day);
            for (int o = 0; o < words.size(); o++) {
                W other = words.get(o);
                if (o != word && !w.gone() && other.form.equals(w.form)) {
                    W stays = o < word ? other : w;
                    W goes = o < word ? w : other;
                    stays.set |= goes.set;
                    stays.said += goes.said;
                    stays.latest = day;
                    stays.since = true;
                    stays.before.clear();
                    goes.vanish();
                    break;
                }
            }
            return lost;
        }

        boolean there(String form) {
            return words.stream().anyMatch(w -> w.form.equals(form));
        }

        static Set<String> shorter(Set<String> forms) {
            Set<String> all = new HashSet<>();
            for (String f : forms) {
                for (int k = 0; k < f.length(); k++) {
                    all.add(f.substring(0, k) + f.substring(k + 1));
                }
            }
            return all;
        }

        boolean follows(int speaker, int word) {
            Set<String> zero = Set.of(known[speaker][word]);
            Set<String> one = shorter(zero);
            Set<String> two = shorter(one);
            String f = words.get(word).form;
            return zero.contains(f) || one.contains(f) || two.contains(f);
        }

        int tell(int speaker, int word, int hearers) {
            int set = 0;
            String f = words.get(word).form;
            for (int s = 0; s < speakers; s++) {
                if ((hearers >> s & 1) == 1) {
                    set |= follows(s, word) ? 1 << s : 0;
                }
            }
            for (int s = 0; s < speakers; s++) {
                if (s == speaker || (hearers >> s & 1) == 1) {
                    known[s][word] = f;
                }
            }
            say(word);
            return set;
        }

        int winter() {
            int set = 0;
            for (int k = 0; k < words.size(); k++) {
                W w = words.get(k);
                if (!w.gone() && !w.since && !w.before.isEmpty()) {
                    String back = w.before.get(w.before.size() - 1);
                    if (!there(back)) {
                        w.form = back;
                        w.before.remove(w.before.size() - 1);
                        set |= 1 << k;
                    }
                }
            }
            for (W w : words) {
                w.since = false;
            }
            return set;
        }

        int with(int meaning) {
            int set = 0;
            for (int k = 0; k < words.size(); k++) {
                set |= (words.get(k).set >> meaning & 1) << k;
            }
            return set;
        }

        int cheap(int meaning) {
            int best = -1;
            for (int k = 0; k < words.size(); k++) {
                if ((with(meaning) >> k & 1) == 1 && (best < 0 || words.get(k).form.length() > words.get(best).form.length())) {
                    best = k;
                }
            }
            return best;
        }

        int life(W start) {
            W w = start.copy();
            for (int k = 1; k <= 40; k++) {
                wear(w, day);
                if (w.gone()) {
                    return k;
                }
            }
            return 41;
        }

        /** all rows of words that tell a story, as lists, each with the letters lost at its end */
        void rows(int[] story, int k, List<Integer> row, int lost, List<List<Integer>> into, List<Integer> costs, int[] far) {
            far[0] = Math.max(far[0], k);
            if (k == story.length) {
                into.add(new ArrayList<>(row));
                costs.add(lost);
                return;
            }
            int set = with(story[k]);
            for (int w = 0; w < words.size(); w++) {
                if ((set >> w & 1) == 1) {
                    V next = copy();
                    int more = next.say(w);
                    row.add(w);
                    next.rows(story, k + 1, row, lost + more, into, costs, far);
                    row.remove(row.size() - 1);
                }
            }
        }

        int readings(long[] heard, int k, int[] row) {
            if (k == heard.length) {
                for (int w = 0; w < words.size(); w++) {
                    if (!fits(w, heard, row)) {
                        return 0;
                    }
                }
                return 1;
            }
            int sum = 0;
            for (int w = 0; w < words.size(); w++) {
                if (!words.get(w).gone()) {
                    row[k] = w;
                    sum += readings(heard, k + 1, row);
                }
            }
            return sum;
        }

        boolean fits(int word, long[] heard, int[] row) {
            W w = new W(words.get(word).first, 0);
            int said = 0;
            boolean started = false;
            for (int k = 0; k < heard.length; k++) {
                if (row[k] != word) {
                    continue;
                }
                if (started) {
                    wear1(w);
                    said++;
                }
                started = true;
                while (said < 40 && !w.gone() && number(w.form) != heard[k]) {
                    wear1(w);
                    said++;
                }
                if (said >= 40 || w.gone()) {
                    return false;
                }
            }
            return true;
        }

        void wear1(W w) {
            if (!w.gone()) {
                wear(w, 0);
            }
        }
    }

    static long number(String form) {
        long n = 0;
        for (char c : form.toCharArray()) {
            n = n * 32 + (c - 'a' + 1);
        }
        return n;
    }

    // ------------------------------------------------------------------ its texts

    static final class Fault extends RuntimeException {
        final int kind;
        final int place;

        Fault(int kind, int place) {
            this.kind = kind;
            this.place = place;
        }
    }

    record Tok(String s, int at, char sort) {   // sort: w word, n number, s sign, b bad, e end
    }

    static final class Reader {
        static final Set<String> KEYS = new HashSet<>(Arrays.asList(("meaning word means speaker soft if drop or and not shared begins ends has"
                + " vowel size said day idle first last hard middle none").split(" ")));
        final List<Tok> toks = new ArrayList<>();
        int p = 0;
        int asked = 0;

        Reader(String text) {
            int k = 0;
            while (k < text.length()) {
                char c = text.charAt(k);
                int at = k;
                if (c == ' ' || c == '\n') {
                    k++;
                } else if (c >= 'a' && c <= 'z') {
                    while (k < text.length() && text.charAt(k) >= 'a' && text.charAt(k) <= 'z') {
                        k++;
                    }
                    toks.add(new Tok(text.substring(at, k), at, 'w'));
                } else if (c >= '0' && c <= '9') {
                    while (k < text.length() && text.charAt(k) >= '0' && text.charAt(k) <= '9') {
                        k++;
                    }
                    toks.add(new Tok(text.substring(at, k), at, k - at > 4 ? 'b' : 'n'));
                } else {
                    k++;
                    toks.add(new Tok("" + c, at, ";<>=()".indexOf(c) >= 0 ? 's' : 'b'));
                }
            }
            toks.add(new Tok("", text.length(), 'e'));
        }

        Tok t() {
            return toks.get(p);
        }

        Fault bad() {
            return new Fault(t().sort == 'b' ? 1 : 2, t().at);
        }

        void eat(String s) {
            if (t().sort == 'b' || !t().s.equals(s)) {
                throw bad();
            }
            p++;
        }

        boolean isName() {
            return t().sort == 'w' && t().s.length() <= 8 && !KEYS.contains(t().s);
        }

        V village() {
            V v = new V();
            List<String> means = new ArrayList<>();
            List<String> talk = new ArrayList<>();
            boolean soft = false;
            while (t().sort != 'e') {
                Tok head = t();
                switch (head.s) {
                    case "meaning", "speaker" -> {
                        List<String> mine = head.s.equals("meaning") ? means : talk;
                        if (mine.size() == (mine == means ? 12 : 4)) {
                            throw new Fault(6, head.at);
                        }
                        p++;
                        if (!isName()) {
                            throw bad();
                        }
                        if (means.contains(t().s) || talk.contains(t().s)) {
                            throw new Fault(3, t().at);
                        }
                        mine.add(t().s);
                        p++;
                    }
                    case "word" -> {
                        if (v.words.size() == 12) {
                            throw new Fault(6, head.at);
                        }
                        p++;
                        if (t().sort != 'w' || t().s.length() > 8) {
                            throw bad();
                        }
                        String f = t().s;
                        if (v.there(f)) {
                            throw new Fault(3, t().at);
                        }
                        p++;
                        eat("means");
                        int set = 0;
                        do {
                            if (!isName()) {
                                throw bad();
                            }
                            int m = means.indexOf(t().s);
                            if (m < 0) {
                                throw new Fault(3, t().at);
                            }
                            if ((set >> m & 1) == 1) {
                                throw new Fault(5, t().at);
                            }
                            set |= 1 << m;
                            p++;
                        } while (!t().s.equals(";"));
                        v.words.add(new W(f, set));
                    }
                    case "soft" -> {
                        if (soft) {
                            throw new Fault(5, head.at);
                        }
                        soft = true;
                        p++;
                        if (t().sort != 'w') {
                            throw bad();
                        }
                        String f = t().s;
                        if (f.chars().distinct().count() != f.length()) {
                            throw new Fault(5, t().at);
                        }
                        StringBuilder order = new StringBuilder(f);
                        for (char c = 'a'; c <= 'z'; c++) {
                            if (f.indexOf(c) < 0) {
                                order.append(c);
                            }
                        }
                        v.order = order.toString();
                        p++;
                    }
                    default -> throw bad();
                }
                eat(";");
            }
            v.meanings = means.size();
            v.speakers = talk.size();
            for (int s = 0; s < 4; s++) {
                for (int w = 0; w < v.words.size(); w++) {
                    v.known[s][w] = v.words.get(w).form;
                }
            }
            return v;
        }

        List<Rule> law() {
            List<Rule> rules = new ArrayList<>();
            while (t().sort != 'e') {
                if (!t().s.equals("if")) {
                    throw bad();
                }
                if (rules.size() == 12) {
                    throw new Fault(6, t().at);
                }
                p++;
                Cond c = either(0);
                eat("drop");
                if (!Set.of("first", "last", "soft", "hard", "middle", "vowel", "none").contains(t().s)) {
                    throw bad();
                }
                rules.add(new Rule(c, t().s));
                p++;
                eat(";");
            }
            return rules;
        }

        Cond either(int deep) {
            Cond c = both(deep);
            while (t().s.equals("or")) {
                p++;
                Cond a = c;
                Cond b = both(deep);
                c = (w, d) -> a.holds(w, d) || b.holds(w, d);
            }
            return c;
        }

        Cond both(int deep) {
            Cond c = one(deep);
            while (t().s.equals("and")) {
                p++;
                Cond a = c;
                Cond b = one(deep);
                c = (w, d) -> a.holds(w, d) && b.holds(w, d);
            }
            return c;
        }

        Cond one(int deep) {
            String s = t().s;
            boolean leaf = Set.of("shared", "begins", "ends", "has", "size", "said", "day", "idle").contains(s);
            if (!leaf && !s.equals("not") && !s.equals("(")) {
                throw bad();
            }
            if (leaf && asked == 24) {
                throw new Fault(6, t().at);
            }
            if (deep == 6) {
                throw new Fault(7, t().at);
            }
            p++;
            if (s.equals("not")) {
                Cond c = one(deep + 1);
                return (w, d) -> !c.holds(w, d);
            }
            if (s.equals("(")) {
                Cond c = either(deep + 1);
                eat(")");
                return c;
            }
            asked++;
            switch (s) {
                case "shared":
                    return (w, d) -> Integer.bitCount(w.set) >= 2;
                case "begins":
                case "ends":
                case "has":
                    if (t().sort != 'w' || t().s.length() != 1 && !t().s.equals("vowel")) {
                        throw bad();
                    }
                    String any = t().s.equals("vowel") ? "aeiou" : t().s;
                    p++;
                    return (w, d) -> s.equals("begins") ? any.contains(w.form.substring(0, 1))
                            : s.equals("ends") ? any.contains(w.form.substring(w.form.length() - 1))
                            : w.form.chars().anyMatch(c -> any.indexOf(c) >= 0);
                default:
                    String cmp = t().s;
                    if (!Set.of("<", ">", "=").contains(cmp)) {
                        throw bad();
                    }
                    p++;
                    if (t().sort != 'n') {
                        throw bad();
                    }
                    int n = Integer.parseInt(t().s);
                    if (n > 99) {
                        throw new Fault(4, t().at);
                    }
                    p++;
                    return (w, d) -> {
                        int x = switch (s) {
                            case "size" -> w.form.length();
                            case "said" -> w.said;
                            case "day" -> Math.min(99, d);
                            default -> Math.min(99, w.latest < 0 ? d : d - w.latest);
                        };
                        return cmp.equals("<") ? x < n : cmp.equals(">") ? x > n : x == n;
                    };
            }
        }
    }

    // ------------------------------------------------------------------ the model's face

    static final class Model {
        V v = new V();
        final List<V> marks = new ArrayList<>();
        final List<Integer> tape = new ArrayList<>();
        final long[][] trays = new long[4][];
        final int[] sorts = new int[4];
        int status = 0;
        int faultKind = -1;
        int faultPlace = -1;
        long top = 0;
        long bottom = 1;
        List<Integer> first = new ArrayList<>();
        int[] gossiped = null;

        long no(int s) {
            status = s;
            return -1;
        }

        long yes(long x) {
            status = 0;
            return x;
        }

        long flag(long x) {
            return x < 0 ? 0 : 1;
        }

        boolean isWord(int w) {
            return w >= 0 && w < v.words.size();
        }

        boolean gone(int w) {
            return v.words.get(w).gone();
        }

        boolean isMeaning(long m) {
            return m >= 0 && m < v.meanings;
        }

        boolean isSpeaker(int s) {
            return s >= 0 && s < v.speakers;
        }

        long living() {
            return v.words.stream().filter(w -> !w.gone()).count();
        }

        long cutTo(int sort, long x) {
            return sort == 0 ? (byte) x : sort == 1 ? (short) x : sort == 2 ? (int) x : x;
        }

        String text(int n) {
            StringBuilder b = new StringBuilder();
            for (int k = 0; k < n; k++) {
                b.append((char) (int) tape.get(k));
            }
            tape.clear();
            return b.toString();
        }

        long gossipOf(int seed, int days, int[] out) {
            V g = v.copy();
            int s = seed;
            int understood = 0;
            for (int d = 0; d < days; d++) {
                s = (s * 2621 + 13217) % 65536;
                int who = s / 8 % g.speakers;
                s = (s * 2621 + 13217) % 65536;
                int word = s / 8 % g.words.size();
                if (!g.words.get(word).gone()) {
                    int others = (1 << g.speakers) - 1 - (1 << who);
                    understood += Integer.bitCount(g.tell(who, word, others));
                    out[0]++;
                    out[1] += g.speakers - 1;
                }
                g.day = Math.min(999, g.day + 1);
            }
            for (W w : g.words) {
                out[2] += w.gone() ? 0 : 1;
                out[3] += w.form.length();
            }
            return understood;
        }

        long call(String name, long... a) {
            int x = a.length > 0 ? (int) a[0] : 0;
            int y = a.length > 1 ? (int) a[1] : 0;
            int z = a.length > 2 ? (int) a[2] : 0;
            switch (name) {
                case "status":
                    return status;
                case "top":
                    return top;
                case "bottom":
                    return bottom;
                case "tray":
                    if (x < 0 || x > 3 || y < 0 || y > 3 || z < 0 || z > 60) {
                        return flag(no(1));
                    }
                    trays[x] = new long[z];
                    sorts[x] = y;
                    return yes(1);
                case "write":
                case "read":
                    boolean reads = name.equals("read");
                    if (x < 0 || x > 3) {
                        return reads ? no(1) : flag(no(1));
                    }
                    if (trays[x] == null) {
                        return reads ? no(2) : flag(no(2));
                    }
                    if (y < 0 || y >= trays[x].length) {
                        return reads ? no(3) : flag(no(3));
                    }
                    if (reads) {
                        return yes(trays[x][y]);
                    }
                    trays[x][y] = cutTo(sorts[x], a[2]);
                    return yes(1);
                case "pour":
                    return flag(pour(x, y, z, (int) a[3], (int) a[4]));
                case "feed":
                    if (tape.size() + 20 > 900) {
                        return -1;
                    }
                    for (long four : a) {
                        for (int k = 3; k >= 0; k--) {
                            tape.add((int) (four >> 8 * k & 255));
                        }
                    }
                    return tape.size();
                case "village":
                case "law":
                    return take(name, x);
                case "fault":
                    return x == 0 ? faultKind : x == 1 ? faultPlace : -1;
                default:
                    return wordCall(name, x, y, z, a);
            }
        }

        long pour(int from, int place, int to, int at, int many) {
            if (from < 0 || from > 3 || to < 0 || to > 3 || place < 0 || at < 0 || many < 0) {
                return no(1);
            }
            if (trays[from] == null || trays[to] == null) {
                return no(2);
            }
            if (sorts[from] != sorts[to]) {
                return no(8);
            }
            if ((long) place + many > trays[from].length || (long) at + many > trays[to].length) {
                return no(3);
            }
            long[] were = trays[from].clone();
            for (int k = 0; k < many; k++) {
                trays[to][at + k] = were[place + k];
            }
            return yes(1);
        }

        long take(String name, int n) {
            if (n < 0 || n > tape.size() || name.equals("law") && n > 300) {
                return no(1);
            }
            try {
                Reader r = new Reader(text(n));
                long many;
                if (name.equals("law")) {
                    v.rules = r.law();
                    many = v.rules.size();
                } else {
                    v = r.village();
                    many = v.words.size();
                }
                faultKind = 0;
                faultPlace = -1;
                return yes(many);
            } catch (Fault f) {
                faultKind = f.kind;
                faultPlace = f.place;
                return no(9);
            }
        }

        long wordCall(String name, int x, int y, int z, long[] a) {
            switch (name) {
                case "told":
                    return x == 0 ? yes(v.meanings) : x == 1 ? yes(v.words.size()) : x == 2 ? yes(v.speakers) : x == 3 ? yes(v.rules.size())
                            : x == 4 ? yes(v.day) : x == 5 ? yes(living()) : no(1);
                case "form":
                    return isWord(x) ? yes(number(v.words.get(x).form)) : no(1);
                case "word":
                    if (!isWord(x) || y < 0 || y > 5) {
                        return no(1);
                    }
                    W w = v.words.get(x);
                    return y == 0 ? yes(w.form.length()) : y == 1 ? yes(w.set) : y == 2 ? yes(w.said) : y == 4 ? yes(w.before.size())
                            : y == 5 ? yes(w.first.length()) : w.latest < 0 ? no(6) : yes(w.latest);
                case "words":
                    return isMeaning(x) ? yes(v.with(x)) : no(1);
                case "loses":
                    return !isWord(x) ? no(1) : gone(x) ? no(6) : yes(v.lose(v.words.get(x), v.day));
                case "chain":
                    return !isWord(x) || y < 0 || y > 39 ? no(1) : gone(x) ? no(6) : yes(number(worn(x, y)));
                case "life":
                    if (!isWord(x)) {
                        return no(1);
                    }
                    return gone(x) ? no(6) : v.life(v.words.get(x)) > 40 ? no(7) : yes(v.life(v.words.get(x)));
                case "twin":
                    if (!isWord(x) || y < 0 || y > 1) {
                        return no(1);
                    }
                    for (int k = 1; k <= 40 && !gone(x); k++) {
                        String f = worn(x, k);
                        for (int o = 0; o < v.words.size(); o++) {
                            if (o != x && !f.isEmpty() && v.words.get(o).form.equals(f)) {
                                return yes(y == 0 ? o : k);
                            }
                        }
                    }
                    return no(6);
                case "common":
                    return !isWord(x) || !isWord(y) ? no(1) : gone(x) || gone(y) ? no(6) : yes(common(v.words.get(x).form, v.words.get(y).form));
                case "rhymes":
                    return rhymes(x, y);
                case "lone":
                case "mute":
                    int set = 0;
                    for (int m = 0; m < v.meanings; m++) {
                        set |= Integer.bitCount(v.with(m)) == (name.equals("lone") ? 1 : 0) ? 1 << m : 0;
                    }
                    return yes(set);
                case "lasts":
                    if (!isMeaning(x)) {
                        return no(1);
                    }
                    V l = v.copy();
                    int n = 0;
                    while (n < 200 && l.cheap(x) >= 0) {
                        l.say(l.cheap(x));
                        n++;
                    }
                    return yes(n);
                case "spread":
                    if (!isWord(x)) {
                        return no(1);
                    }
                    Set<String> forms = new HashSet<>();
                    for (int s = 0; s < v.speakers; s++) {
                        forms.add(v.known[s][x]);
                    }
                    return yes(forms.size());
                case "wintry":
                    return yes(v.copy().winter());
                case "winter":
                    return yes(Integer.bitCount(v.winter()));
                default:
                    return sayCall(name, x, y, z, a);
            }
        }

        String worn(int word, int k) {
            W w = v.words.get(word).copy();
            for (int s = 0; s < k && !w.gone(); s++) {
                v.wear(w, v.day);
            }
            return w.form;
        }

        static int common(String a, String b) {
            if (a.isEmpty() || b.isEmpty()) {
                return 0;
            }
            String c = a.substring(1);
            String d = b.substring(1);
            return a.charAt(0) == b.charAt(0) ? 1 + common(c, d) : Math.max(common(a, d), common(c, b));
        }

        long rhymes(int x, int n) {
            if (!isWord(x) || n < 1 || n > 8) {
                return no(1);
            }
            String f = v.words.get(x).form;
            if (f.isEmpty() || f.length() < n) {
                return no(f.isEmpty() ? 6 : 7);
            }
            int set = 0;
            for (int o = 0; o < v.words.size(); o++) {
                set |= o != x && v.words.get(o).form.endsWith(f.substring(f.length() - n)) ? 1 << o : 0;
            }
            return yes(set);
        }

        long sayCall(String name, int x, int y, int z, long[] a) {
            switch (name) {
                case "say":
                    if (!isWord(x) || gone(x)) {
                        return no(isWord(x) ? 6 : 1);
                    }
                    v.say(x);
                    return yes(v.words.get(x).form.length());
                case "tell":
                    if (!isSpeaker(x) || !isWord(y) || z < 0 || z >= 1 << v.speakers || (z >> x & 1) == 1) {
                        return no(1);
                    }
                    return gone(y) ? no(6) : yes(v.tell(x, y, z));
                case "follows":
                    return !isSpeaker(x) || !isWord(y) ? no(1) : gone(y) ? no(6) : yes(v.follows(x, y) ? 1 : 0);
                case "knows":
                    return !isSpeaker(x) || !isWord(y) ? no(1) : yes(number(v.known[x][y]));
                case "pass":
                    if (x < 1 || x > 99) {
                        return no(1);
                    }
                    if (v.day + x > 999) {
                        return no(4);
                    }
                    return yes(v.day += x);
                case "cut":
                    return cut(x, y, z, (int) a[3], (int) a[4]);
                case "bestCut":
                    return bestCut(x, y, z);
                case "mark":
                    if (marks.size() == 3) {
                        return no(4);
                    }
                    marks.add(v.copy());
                    return yes(marks.size());
                case "back":
                    if (marks.isEmpty()) {
                        return no(6);
                    }
                    v = marks.remove(marks.size() - 1);
                    return yes(marks.size());
                case "cheap":
                    return !isMeaning(x) ? no(1) : v.cheap(x) < 0 ? no(6) : yes(v.cheap(x));
                case "fewestAt":
                    return x < 0 || x >= first.size() ? no(6) : yes(first.get(x));
                case "gossip":
                    if (x < 0 || x > 9999 || y < 1 || y > 60) {
                        return no(1);
                    }
                    if (v.speakers == 0 || v.words.isEmpty()) {
                        return no(6);
                    }
                    gossiped = new int[4];
                    return yes(gossipOf(x, y, gossiped));
                case "gossiped":
                    return x < 0 || x > 3 ? no(1) : gossiped == null ? no(6) : yes(gossiped[x]);
                case "odds":
                    return flag(odds(x, y, z));
                default:
                    return storyCall(name, x, y);
            }
        }

        boolean canCut(int x, int i, int y, int j) {
            String f = v.words.get(x).form;
            String g = v.words.get(y).form;
            return i <= f.length() && j <= g.length() && i + j <= 8 && !v.there(f.substring(0, i) + g.substring(g.length() - j));
        }

        String cutForm(int x, int i, int y, int j) {
            String g = v.words.get(y).form;
            return v.words.get(x).form.substring(0, i) + g.substring(g.length() - j);
        }

        long cut(int x, int i, int y, int j, int meaning) {
            if (!isWord(x) || !isWord(y) || i < 1 || j < 1 || !isMeaning(meaning)) {
                return no(1);
            }
            if (living() == 12) {
                return no(4);
            }
            if (gone(x) || gone(y)) {
                return no(6);
            }
            if (!canCut(x, i, y, j)) {
                return no(7);
            }
            W w = new W(cutForm(x, i, y, j), 1 << meaning);
            int n = 0;
            while (n < v.words.size() && !gone(n)) {
                n++;
            }
            if (n == v.words.size()) {
                v.words.add(w);
            } else {
                v.words.set(n, w);
            }
            for (int s = 0; s < 4; s++) {
                v.known[s][n] = w.form;
            }
            if (!gone(x)) {
                v.say(x);
            }
            if (!gone(y)) {
                v.say(y);
            }
            return yes(n);
        }

        long bestCut(int x, int y, int what) {
            if (!isWord(x) || !isWord(y) || what < 0 || what > 2) {
                return no(1);
            }
            if (living() == 12) {
                return no(4);
            }
            if (gone(x) || gone(y)) {
                return no(6);
            }
            int[] best = {0, 0, 0};
            for (int i = 1; i <= 8; i++) {
                for (int j = 1; j <= 8; j++) {
                    if (canCut(x, i, y, j)) {
                        int life = Math.min(40, v.life(new W(cutForm(x, i, y, j), 0)));
                        if (life > best[2]) {
                            best = new int[] {i, j, life};
                        }
                    }
                }
            }
            return best[2] == 0 ? no(7) : yes(best[what]);
        }

        long odds(int seed, int many, int days) {
            if (seed < 0 || many < 1 || many > 20 || (long) seed + many - 1 > 9999 || days < 1 || days > 60) {
                return no(1);
            }
            if (v.speakers == 0 || v.words.isEmpty()) {
                return no(6);
            }
            int[] out = new int[4];
            long sum = 0;
            for (int k = 0; k < many; k++) {
                sum += gossipOf(seed + k, days, out);
            }
            if (out[1] == 0) {
                return no(6);
            }
            long g = java.math.BigInteger.valueOf(sum).gcd(java.math.BigInteger.valueOf(out[1])).longValue();
            top = sum / g;
            bottom = out[1] / g;
            return yes(1);
        }

        long storyCall(String name, int x, int many) {
            boolean hears = name.equals("readings");
            if (x < 0 || x > 3 || many < 1 || many > (hears ? 6 : 5)) {
                return no(1);
            }
            if (trays[x] == null) {
                return no(2);
            }
            if (trays[x].length < many) {
                return no(3);
            }
            long[] row = Arrays.copyOf(trays[x], many);
            int[] story = new int[many];
            for (int k = 0; k < many; k++) {
                if (hears ? row[k] < 1 : !isMeaning(row[k])) {
                    return no(5);
                }
                story[k] = (int) row[k];
            }
            if (hears) {
                return yes(v.readings(row, 0, new int[many]));
            }
            if (name.equals("story")) {
                V s = v.copy();
                int lost = 0;
                for (int m : story) {
                    if (s.cheap(m) < 0) {
                        return no(6);
                    }
                    lost += s.say(s.cheap(m));
                }
                v = s;
                return yes(lost);
            }
            List<List<Integer>> rows = new ArrayList<>();
            List<Integer> costs = new ArrayList<>();
            int[] far = {0};
            v.rows(story, 0, new ArrayList<>(), 0, rows, costs, far);
            if (name.equals("ways")) {
                return yes(rows.size());
            }
            if (name.equals("howFar")) {
                return yes(far[0]);
            }
            int best = -1;
            for (int k = 0; k < rows.size(); k++) {
                if (best < 0 || costs.get(k) < costs.get(best)) {
                    best = k;
                }
            }
            if (best < 0) {
                return no(6);
            }
            first = rows.get(best);
            return yes(costs.get(best));
        }
    }

    // ------------------------------------------------------------------ the runs

    static long ask(WornWords w, String name, long... a) {
        int x = a.length > 0 ? (int) a[0] : 0;
        int y = a.length > 1 ? (int) a[1] : 0;
        int z = a.length > 2 ? (int) a[2] : 0;
        int u = a.length > 3 ? (int) a[3] : 0;
        int t = a.length > 4 ? (int) a[4] : 0;
        return switch (name) {
            case "status" -> w.status();
            case "top" -> w.top();
            case "bottom" -> w.bottom();
            case "tray" -> w.tray(x, y, z) ? 1 : 0;
            case "write" -> w.write(x, y, a[2]) ? 1 : 0;
            case "read" -> w.read(x, y);
            case "pour" -> w.pour(x, y, z, u, t) ? 1 : 0;
            case "feed" -> w.feed(x, y, z, u, t);
            case "village" -> w.village(x);
            case "law" -> w.law(x);
            case "fault" -> w.fault(x);
            case "told" -> w.told(x);
            case "form" -> w.form(x);
            case "word" -> w.word(x, y);
            case "words" -> w.words(x);
            case "loses" -> w.loses(x);
            case "chain" -> w.chain(x, y);
            case "life" -> w.life(x);
            case "twin" -> w.twin(x, y);
            case "common" -> w.common(x, y);
            case "rhymes" -> w.rhymes(x, y);
            case "lone" -> w.lone();
            case "mute" -> w.mute();
            case "lasts" -> w.lasts(x);
            case "spread" -> w.spread(x);
            case "wintry" -> w.wintry();
            case "say" -> w.say(x);
            case "tell" -> w.tell(x, y, z);
            case "follows" -> w.follows(x, y);
            case "knows" -> w.knows(x, y);
            case "pass" -> w.pass(x);
            case "winter" -> w.winter();
            case "cut" -> w.cut(x, y, z, u, t);
            case "bestCut" -> w.bestCut(x, y, z);
            case "ways" -> w.ways(x, y);
            case "fewest" -> w.fewest(x, y);
            case "fewestAt" -> w.fewestAt(x);
            case "howFar" -> w.howFar(x, y);
            case "cheap" -> w.cheap(x);
            case "story" -> w.story(x, y);
            case "readings" -> w.readings(x, y);
            case "gossip" -> w.gossip(x, y);
            case "gossiped" -> w.gossiped(x);
            case "odds" -> w.odds(x, y, z) ? 1 : 0;
            case "mark" -> w.mark();
            case "back" -> w.back();
            default -> throw new IllegalArgumentException(name);
        };
    }

    static final class Run {
        final long seed;
        final Random r;
        final WornWords real = new WornWords();
        final Model model = new Model();
        final List<String> log = new ArrayList<>();
        boolean same = true;

        Run(long seed) {
            this.seed = seed;
            this.r = new Random(seed * 7919 + 13);
        }

        void call(String name, long... a) {
            if (!same) {
                return;
            }
            long got = ask(real, name, a);
            long due = model.call(name, a);
            log.add(name + Arrays.toString(a) + " = " + got + " (status " + real.status() + ")");
            if (got != due || real.status() != model.status) {
                same = false;
                System.out.println("run " + seed + ":");
                log.forEach(l -> System.out.println("  " + l));
                System.out.println("  due is " + due + " (status " + model.status + ")");
            }
        }

        boolean play() {
            if (r.nextInt(10) > 0) {
                text("village", randomVillage());
                if (r.nextInt(4) > 0) {
                    text("law", randomLaw());
                }
            }
            if (r.nextInt(6) == 0) {
                // Days as far as 99, at which those that a LAW counts stay, or as 999, the last one.
                for (int k = r.nextBoolean() ? 1 : 10; k > 0; k--) {
                    call("pass", r.nextInt(3) == 0 ? 99 : 90 + r.nextInt(10));
                }
            }
            for (int k = 0; k < CALLS && same; k++) {
                randomCall();
            }
            return same;
        }

        void text(String what, String text) {
            int most = what.equals("law") ? 300 : 900;
            String s = text.length() > most ? text.substring(0, most) : text;
            log.add("# " + s);
            for (int k = 0; k < s.length(); k += 20) {
                long[] five = new long[5];
                for (int b = 0; b < 20; b++) {
                    int c = k + b < s.length() ? s.charAt(k + b) : 0;
                    five[b / 4] = (int) (five[b / 4] << 8 | c);
                }
                call("feed", five);
            }
            call(what, r.nextInt(30) == 0 ? s.length() + r.nextInt(40) - 20 : s.length());
            call("fault", 0);
            call("fault", 1);
        }

        int any(int n) {
            if (r.nextInt(80) == 0) {
                return FAR[r.nextInt(FAR.length)];
            }
            return r.nextInt(25) == 0 ? n + r.nextInt(3) : r.nextInt(25) == 0 ? -1 - r.nextInt(2) : n > 0 ? r.nextInt(n) : 0;
        }

        int aWord() {
            return any(model.v.words.size());
        }

        int aMeaning() {
            return any(model.v.meanings);
        }

        int aSpeaker() {
            return any(model.v.speakers);
        }

        void randomCall() {
            switch (r.nextInt(48)) {
                case 0 -> call("told", any(6));
                case 1 -> call("form", aWord());
                case 2 -> call("word", aWord(), any(6));
                case 3 -> call("words", aMeaning());
                case 4 -> call("loses", aWord());
                case 5 -> call("chain", aWord(), any(r.nextBoolean() ? 40 : 8));
                case 6 -> call("life", aWord());
                case 7 -> call("twin", aWord(), any(2));
                case 8 -> call("common", aWord(), aWord());
                case 9 -> call("rhymes", aWord(), 1 + any(r.nextBoolean() ? 8 : 3));
                case 10 -> call(r.nextBoolean() ? "lone" : "mute");
                case 11 -> call("lasts", aMeaning());
                case 12 -> call("spread", aWord());
                case 13 -> call("wintry");
                case 14, 15, 16, 17 -> call("say", aWord());
                case 18, 19, 20 -> call("tell", aSpeaker(), aWord(), r.nextInt(8) == 0 ? any(20) : r.nextInt(1 << model.v.speakers));
                case 21 -> call("follows", aSpeaker(), aWord());
                case 22 -> call("knows", aSpeaker(), aWord());
                case 23, 24 -> call("pass", 1 + any(r.nextInt(6) == 0 ? 99 : 5));
                case 25, 26 -> call("winter");
                case 27, 28, 29 -> call("cut", aWord(), 1 + any(4), aWord(), 1 + any(4), aMeaning());
                case 30 -> call("bestCut", aWord(), aWord(), any(3));
                case 31, 32 -> storyCalls();
                case 33, 34 -> readingCalls();
                case 35 -> call("fewestAt", any(5));
                case 36 -> call("cheap", aMeaning());
                case 37 -> call("gossip", r.nextInt(8) == 0 ? any(10000) : r.nextInt(10000), 1 + any(60));
                case 38 -> call("gossiped", any(4));
                case 39 -> {
                    call("odds", r.nextInt(5) == 0 ? 9980 + any(25) : r.nextInt(9990), 1 + any(20), 1 + any(60));
                    call("top");
                    call("bottom");
                }
                case 40 -> call("mark");
                case 41 -> call("back");
                case 42 -> call("tray", any(4), any(4), any(r.nextBoolean() ? 61 : 7));
                case 43 -> call("write", any(4), any(7), r.nextBoolean() ? r.nextInt(300) : r.nextLong());
                case 44 -> call("read", any(4), any(7));
                case 45 -> call("pour", any(4), any(5), any(4), any(5), any(6));
                case 46 -> {
                    if (r.nextInt(4) == 0) {
                        text("village", randomVillage());
                    } else {
                        text("law", randomLaw());
                    }
                }
                default -> {
                    if (r.nextInt(20) == 0) {
                        for (int k = 0; k < 46; k++) {
                            call("feed", r.nextInt(), r.nextInt(), r.nextInt(), r.nextInt(), r.nextInt());
                        }
                    }
                    call(r.nextBoolean() ? "village" : "law", any(400));
                }
            }
        }

        void storyCalls() {
            int tray = r.nextInt(4);
            int many = 1 + r.nextInt(model.v.words.size() > 7 ? 3 : model.v.words.size() > 5 ? 4 : 5);
            call("tray", tray, r.nextInt(4), many + r.nextInt(3));
            for (int k = 0; k < many; k++) {
                call("write", tray, k, aMeaning());
            }
            int asked = r.nextInt(15) == 0 ? any(8) : many;
            for (String name : new String[] {"ways", "fewest", "howFar"}) {
                call(name, tray, asked);
            }
            for (int k = 0; k < many; k++) {
                call("fewestAt", k);
            }
            if (r.nextBoolean()) {
                call("story", tray, asked);
            }
        }

        void readingCalls() {
            int tray = r.nextInt(4);
            int many = 1 + r.nextInt(model.v.words.size() > 6 ? 3 : 4);
            call("tray", tray, r.nextInt(6) == 0 ? r.nextInt(4) : 3, many + r.nextInt(3));
            for (int k = 0; k < many; k++) {
                long form = r.nextInt(20) == 0 ? r.nextInt(40) - 5 : 1;
                if (!model.v.words.isEmpty() && r.nextInt(20) > 0) {
                    V v = model.v;
                    W w = new W(v.words.get(r.nextInt(v.words.size())).first, 0);
                    for (int s = r.nextInt(9); s > 0 && w.form.length() > 1; s--) {
                        v.wear(w, 0);
                    }
                    form = number(w.form);
                }
                call("write", tray, k, form);
            }
            call("readings", tray, r.nextInt(15) == 0 ? any(9) : many);
        }

        String letters(int most) {
            String some = r.nextInt(3) == 0 ? "abcdefghijklmnopqrstuvwxyz" : "abe";
            StringBuilder b = new StringBuilder();
            for (int k = 1 + r.nextInt(most); k > 0; k--) {
                b.append(some.charAt(r.nextInt(some.length())));
            }
            return b.toString();
        }

        String randomVillage() {
            StringBuilder b = new StringBuilder();
            int means = 1 + r.nextInt(r.nextInt(6) == 0 ? 13 : 4);
            for (int k = 0; k < means; k++) {
                b.append("meaning m").append((char) ('a' + k)).append(";");
            }
            if (r.nextBoolean()) {
                StringBuilder soft = new StringBuilder();
                for (char c : letters(6).toCharArray()) {
                    if (soft.indexOf("" + c) < 0) {
                        soft.append(c);
                    }
                }
                b.append("soft ").append(soft).append(" ;\n");
            }
            for (int k = r.nextInt(r.nextInt(8) == 0 ? 6 : 5); k > 0; k--) {
                b.append("speaker s").append((char) ('a' + k)).append("; ");
            }
            Set<String> have = new HashSet<>();
            String latest = "";
            for (int k = r.nextInt(r.nextInt(5) == 0 ? 14 : 8); k > 0; k--) {
                String f = letters(r.nextBoolean() ? 8 : 4);
                if (r.nextInt(3) == 0 && !have.isEmpty()) {
                    // A word like the one ahead but for an end, so that they become ONE now and then.
                    f = latest.substring(0, (latest.length() + 1) / 2) + letters(2);
                    f = f.substring(0, Math.min(f.length(), 8));
                }
                latest = f;
                if (have.add(f)) {
                    b.append("word ").append(f).append(" means");
                    int set = 1 + r.nextInt((1 << Math.min(means, 12)) - 1);
                    for (int m = 0; m < 12; m++) {
                        if ((set >> m & 1) == 1) {
                            b.append(" m").append((char) ('a' + m));
                        }
                    }
                    b.append(";");
                }
            }
            return spoiled(b, 4);
        }

        String randomLaw() {
            StringBuilder b = new StringBuilder();
            if (r.nextInt(6) == 0) {
                // Words that keep their letters for so long that what is asked ends about at the 40th saying.
                b.append("if said<").append(34 + r.nextInt(8)).append(" drop none;");
            }
            for (int k = r.nextInt(r.nextInt(8) == 0 ? 15 : 4); k > 0; k--) {
                b.append("if ");
                either(b, 0);
                String[] which = {"first", "last", "soft", "hard", "middle", "vowel", "none"};
                b.append(" drop ").append(which[r.nextInt(7)]).append(";");
            }
            return spoiled(b, 4);
        }

        void either(StringBuilder b, int deep) {
            one(b, deep);
            while (r.nextInt(3) == 0) {
                b.append(r.nextBoolean() ? " or " : " and ");
                one(b, deep);
            }
        }

        void one(StringBuilder b, int deep) {
            int kind = r.nextInt(9);
            if (kind < 2 && deep < 8) {
                b.append("not ");
                one(b, deep + 1);
            } else if (kind == 2 && deep < 8) {
                b.append("(");
                either(b, deep + 1);
                b.append(")");
            } else if (kind == 3) {
                b.append("shared");
            } else if (kind < 6) {
                b.append(new String[] {"begins ", "ends ", "has "}[r.nextInt(3)]);
                b.append(r.nextInt(3) == 0 ? "vowel" : letters(1));
            } else {
                b.append(new String[] {"size", "said", "day", "idle"}[r.nextInt(4)]);
                b.append("<>=".charAt(r.nextInt(3))).append(r.nextInt(8) == 0 ? 95 + r.nextInt(6) : r.nextInt(r.nextInt(5) == 0 ? 110 : 6));
            }
        }

        String spoiled(StringBuilder b, int oneIn) {
            if (r.nextInt(oneIn) > 0 || b.length() == 0) {
                return b.toString();
            }
            for (int k = 1 + r.nextInt(2); k > 0 && b.length() > 0; k--) {
                int at = r.nextInt(b.length());
                String[] bits = {"", " ", ";", "a", "(", ")", "7", "12345", "%", " not ", " word ", " soft ab;", " or ", " and ", "abcdefghi", " drop ", "means", "\t", "\n", "\u00e9"};
                switch (r.nextInt(3)) {
                    case 0 -> b.insert(at, bits[r.nextInt(bits.length)]);
                    case 1 -> b.deleteCharAt(at);
                    default -> b.setLength(at);
                }
            }
            return b.toString();
        }
    }
}
