/**
 * "With another STATUS than 0 a call gives NONE, or false, and changes nothing else":
 * each kind of refused call, on an object with a bit of everything, at the edges and far off;
 * behind it all that can be asked is compared with an object that was never asked.
 */
public final class RefusalRuns extends Checks {
    private static final int MIN = Integer.MIN_VALUE;
    private static final int MAX = Integer.MAX_VALUE;
    private static final int[] NO_WORD = {-1, 4, 12, 31, 32, MIN, MAX};
    private static final int[] NO_MEANING = {-1, 2, 12, 31, 32, MIN, MAX};
    private static final int[] NO_SPEAKER = {-1, 2, 4, 32, MIN, MAX};
    private static final int[] NO_TRAY = {-1, 4, 60, MIN, MAX};

    public static void main(String[] args) {
        promise = "5 to 8";
        trays();
        places();
        pours();
        promise = "10, 11";
        texts();
        faultyTexts();
        promise = "13 to 27";
        asks();
        goneWords();
        limits();
        promise = "28 to 35";
        sayings();
        cuts();
        fullVillage();
        promise = "36 to 42";
        rows();
        untold();
        promise = "43 to 45";
        gossips();
        promise = "46, 47";
        marks();
        promise = "2 and 9";
        withoutStatus();
        zeroElse();
        end("refused calls change nothing");
    }

    /** Words 0 to 3, of which 3 is GONE; MEANINGS 0, 1; SPEAKERS 0, 1; TRAYS 0 (MEANINGS, 8 bits), 1, 2 (no place), 3 MISSING. */
    private static WornWords rich() {
        WornWords x = new WornWords();
        village(x, "meaning m;meaning n;speaker s;speaker t;soft eo;"
                + "word stone means m;word ton means n;word tone means m n;word q means n;");
        law(x, "if said=0 drop soft;if begins t drop first;if size>5 drop none;");
        x.mark();
        x.pass(3);
        x.tell(0, 0, 2);
        x.say(3);
        x.winter();
        x.tell(1, 1, 0);
        x.mark();
        x.tray(0, 0, 3);
        x.write(0, 1, 1);
        x.tray(1, 3, 3);
        x.write(1, 0, number("stn"));
        x.write(1, 1, -9);
        x.tray(2, 0, 0);
        x.fewest(0, 2);
        x.gossip(5, 3);
        x.odds(0, 2, 2);
        feed(x, "meaning zz;word ab m");
        return x;
    }

    private static void no(int status, String call, Call c) {
        refuses(RefusalRuns::rich, status, call, c);
    }

    private static void noFlag(int status, String call, Call c) {
        refusesFlag(RefusalRuns::rich, status, call, c);
    }

    private static long flag(boolean b) {
        return b ? 1 : 0;
    }

    private static void trays() {
        for (int tray : NO_TRAY) {
            noFlag(1, "tray(" + tray + ", 0, 1)", x -> flag(x.tray(tray, 0, 1)));
        }
        for (int sort : new int[] {-1, 4, MIN, MAX}) {
            noFlag(1, "tray(0, " + sort + ", 1)", x -> flag(x.tray(0, sort, 1)));
            noFlag(1, "tray(3, " + sort + ", 1)", x -> flag(x.tray(3, sort, 1)));
        }
        for (int many : new int[] {-1, 61, MIN, MAX}) {
            noFlag(1, "tray(0, 0, " + many + ")", x -> flag(x.tray(0, 0, many)));
            noFlag(1, "tray(3, 0, " + many + ")", x -> flag(x.tray(3, 0, many)));
        }
    }

    private static void places() {
        for (int tray : NO_TRAY) {
            noFlag(1, "write(" + tray + ", 0)", x -> flag(x.write(tray, 0, 7)));
            noFlag(1, "write(" + tray + ", -1)", x -> flag(x.write(tray, -1, 7)));
            no(1, "read(" + tray + ", 0)", x -> x.read(tray, 0));
            no(1, "read(" + tray + ", 99)", x -> x.read(tray, 99));
        }
        for (int place : new int[] {-1, 3, 59, 60, MIN, MAX}) {
            noFlag(3, "write(0, " + place + ")", x -> flag(x.write(0, place, 7)));
            no(3, "read(0, " + place + ")", x -> x.read(0, place));
            noFlag(2, "write(3, " + place + ")", x -> flag(x.write(3, place, 7)));
            no(2, "read(3, " + place + ")", x -> x.read(3, place));
        }
        for (int place : new int[] {-1, 0, 1}) {
            noFlag(3, "write(2, " + place + ") of a TRAY without places", x -> flag(x.write(2, place, 7)));
            no(3, "read(2, " + place + ") of a TRAY without places", x -> x.read(2, place));
        }
        noFlag(2, "write(3, 0)", x -> flag(x.write(3, 0, 7)));
        no(2, "read(3, 0)", x -> x.read(3, 0));
    }

    private static void pour(int status, int from, int place, int to, int at, int many) {
        String call = "pour(" + from + ", " + place + ", " + to + ", " + at + ", " + many + ")";
        noFlag(status, call, x -> flag(x.pour(from, place, to, at, many)));
    }

    private static void pours() {
        for (int tray : NO_TRAY) {
            pour(1, tray, 0, 0, 0, 1);
            pour(1, 0, 0, tray, 0, 1);
            pour(1, tray, 0, 3, 0, 1);
        }
        for (int below : new int[] {-1, MIN}) {
            pour(1, 0, below, 0, 0, 1);
            pour(1, 0, 0, 0, below, 1);
            pour(1, 0, 0, 0, 0, below);
            pour(1, 3, below, 3, 0, 1);
            pour(1, 3, 0, 3, below, 1);
            pour(1, 0, 0, 1, 0, below);
        }
        pour(2, 3, 0, 0, 0, 1);
        pour(2, 0, 0, 3, 0, 1);
        pour(2, 3, 0, 3, 0, 0);
        pour(2, 0, 99, 3, 99, 99);
        pour(8, 0, 0, 1, 0, 1);
        pour(8, 1, 0, 0, 0, 0);
        pour(8, 0, 99, 1, 0, 1);
        pour(8, 0, 0, 1, 99, 99);
        for (int tray = 0; tray < 2; tray++) {
            pour(3, tray, 0, tray, 0, 4);
            pour(3, tray, 1, tray, 0, 3);
            pour(3, tray, 0, tray, 1, 3);
            pour(3, tray, 3, tray, 0, 1);
            pour(3, tray, 0, tray, 3, 1);
            pour(3, tray, 4, tray, 0, 0);
            pour(3, tray, 0, tray, 4, 0);
            pour(3, tray, MAX, tray, 0, 1);
            pour(3, tray, 0, tray, MAX, 1);
            pour(3, tray, 0, tray, 0, MAX);
            pour(3, tray, MAX, tray, MAX, MAX);
            pour(3, tray, 1, tray, 1, MAX);
            pour(3, tray, MAX, tray, 0, 0);
        }
        pour(3, 0, 0, 2, 0, 1);
        pour(3, 2, 0, 0, 0, 1);
        pour(3, 0, 0, 2, 1, 0);
        pour(3, 2, 1, 0, 0, 0);
    }

    private static void texts() {
        for (int n : new int[] {-1, 21, 900, 901, MIN, MAX}) {
            no(1, "village(" + n + ") of 20", x -> x.village(n));
            no(1, "law(" + n + ") of 20", x -> x.law(n));
        }
        Made full = () -> {
            WornWords x = rich();
            feed(x, " ".repeat(880));
            return x;
        };
        for (int n : new int[] {-1, 901, MIN, MAX}) {
            refuses(full, 1, "village(" + n + ") of 900", x -> x.village(n));
        }
        for (int n : new int[] {-1, 301, 302, 900, 901, MIN, MAX}) {
            refuses(full, 1, "law(" + n + ") of 900", x -> x.law(n));
        }
        Made empty = () -> {
            WornWords x = rich();
            x.law(0);
            return x;
        };
        refuses(empty, 1, "village(1) of none", x -> x.village(1));
        refuses(empty, 1, "law(1) of none", x -> x.law(1));
    }

    /** With 9 the tape is empty, and fault() tells; all else is as it was. */
    private static void faultyTexts() {
        String[] villages = {"word", "soft toen;soft", "meaning w;word stone means w;word xyz means w w;", "speaker a;speaker b;speaker c;speaker d;speaker e;",
            "meaning q;speaker z;soft n;word q means q;%", twelve("meaning q", "") + "word o means qa qb qc qd qe qf qg qh qi qj qk ql qm;"};
        for (String text : villages) {
            refusesText("village " + text, text, x -> x.village(text.length()));
        }
        String[] laws = {"if", "if size>0 drop none;if size>0 drop", "if size<100 drop last;", "if size>0 drop first;".repeat(12) + "if shared drop last;",
            "if size>0 drop hard;%", "if not not not not not not shared drop last;"};
        for (String text : laws) {
            refusesText("law " + text, text, x -> x.law(text.length()));
        }
    }

    private static void refusesText(String call, String text, Call c) {
        Made taped = () -> {
            WornWords x = rich();
            x.law(0);
            law(x, "if said=0 drop soft;if begins t drop first;if size>5 drop none;");
            feed(x, text);
            return x;
        };
        WornWords x = taped.make();
        refused(x, call, c.on(x), 9);
        due(call + ": the tape is empty", x.feed(0, 0, 0, 0, 0), 20);
        same(call, everything(x, false), everything(taped.make(), false));
    }

    private static void asks() {
        for (int what : new int[] {-1, 6, 7, MIN, MAX}) {
            no(1, "told(" + what + ")", x -> x.told(what));
            no(1, "word(0, " + what + ")", x -> x.word(0, what));
            no(1, "word(3, " + what + ")", x -> x.word(3, what));
        }
        for (int word : NO_WORD) {
            no(1, "form(" + word + ")", x -> x.form(word));
            for (int what = -1; what <= 6; what++) {
                int w = what;
                no(1, "word(" + word + ", " + w + ")", x -> x.word(word, w));
            }
            no(1, "loses(" + word + ")", x -> x.loses(word));
            no(1, "chain(" + word + ", 0)", x -> x.chain(word, 0));
            no(1, "life(" + word + ")", x -> x.life(word));
            no(1, "twin(" + word + ", 0)", x -> x.twin(word, 0));
            no(1, "common(" + word + ", 0)", x -> x.common(word, 0));
            no(1, "common(0, " + word + ")", x -> x.common(0, word));
            no(1, "common(3, " + word + "): 1 is ahead of 6", x -> x.common(3, word));
            no(1, "common(" + word + ", 3): 1 is ahead of 6", x -> x.common(word, 3));
            no(1, "rhymes(" + word + ", 1)", x -> x.rhymes(word, 1));
            no(1, "spread(" + word + ")", x -> x.spread(word));
        }
        for (int meaning : NO_MEANING) {
            no(1, "words(" + meaning + ")", x -> x.words(meaning));
            no(1, "lasts(" + meaning + ")", x -> x.lasts(meaning));
        }
        for (int k : new int[] {-1, 40, 41, MIN, MAX}) {
            no(1, "chain(0, " + k + ")", x -> x.chain(0, k));
            no(1, "chain(3, " + k + "): 1 is ahead of 6", x -> x.chain(3, k));
        }
        for (int what : new int[] {-1, 2, MIN, MAX}) {
            no(1, "twin(0, " + what + ")", x -> x.twin(0, what));
            no(1, "twin(3, " + what + "): 1 is ahead of 6", x -> x.twin(3, what));
        }
        for (int n : new int[] {-1, 0, 9, MIN, MAX}) {
            no(1, "rhymes(0, " + n + ")", x -> x.rhymes(0, n));
            no(1, "rhymes(3, " + n + "): 1 is ahead of 6", x -> x.rhymes(3, n));
        }
    }

    private static void goneWords() {
        no(6, "loses(3)", x -> x.loses(3));
        no(6, "chain(3, 0)", x -> x.chain(3, 0));
        no(6, "chain(3, 39)", x -> x.chain(3, 39));
        no(6, "life(3)", x -> x.life(3));
        no(6, "twin(3, 0)", x -> x.twin(3, 0));
        no(6, "twin(3, 1)", x -> x.twin(3, 1));
        no(6, "common(3, 0)", x -> x.common(3, 0));
        no(6, "common(0, 3)", x -> x.common(0, 3));
        no(6, "common(3, 3)", x -> x.common(3, 3));
        no(6, "rhymes(3, 1)", x -> x.rhymes(3, 1));
        no(6, "rhymes(3, 8): 6 is ahead of 7", x -> x.rhymes(3, 8));
    }

    private static void limits() {
        no(7, "rhymes(1, 3): it has two letters", x -> x.rhymes(1, 3));
        no(7, "rhymes(2, 8)", x -> x.rhymes(2, 8));
        no(6, "word(2, 3): never said", x -> x.word(2, 3));
        no(6, "twin(1, 0): none", x -> x.twin(1, 0));
        no(6, "twin(1, 1): none", x -> x.twin(1, 1));
        Made lasting = () -> {
            WornWords x = rich();
            x.law(0);
            law(x, "if size>0 drop none;");
            return x;
        };
        refuses(lasting, 7, "life(0)", x -> x.life(0));
        refuses(lasting, 6, "twin(0, 0)", x -> x.twin(0, 0));
    }

    private static void sayings() {
        for (int word : NO_WORD) {
            no(1, "say(" + word + ")", x -> x.say(word));
            no(1, "tell(0, " + word + ", 2)", x -> x.tell(0, word, 2));
            no(1, "follows(0, " + word + ")", x -> x.follows(0, word));
            no(1, "knows(0, " + word + ")", x -> x.knows(0, word));
        }
        for (int speaker : NO_SPEAKER) {
            no(1, "tell(" + speaker + ", 0, 0)", x -> x.tell(speaker, 0, 0));
            no(1, "tell(" + speaker + ", 3, 0): 1 is ahead of 6", x -> x.tell(speaker, 3, 0));
            no(1, "follows(" + speaker + ", 0)", x -> x.follows(speaker, 0));
            no(1, "follows(" + speaker + ", 3): 1 is ahead of 6", x -> x.follows(speaker, 3));
            no(1, "knows(" + speaker + ", 0)", x -> x.knows(speaker, 0));
        }
        for (int hearers : new int[] {1, 3, 4, 5, 6, 8, -1, -2, MIN, MAX, 1 << 30}) {
            no(1, "tell(0, 0, " + hearers + ")", x -> x.tell(0, 0, hearers));
            no(1, "tell(0, 3, " + hearers + "): 1 is ahead of 6", x -> x.tell(0, 3, hearers));
        }
        no(1, "tell(1, 0, 2): to itself", x -> x.tell(1, 0, 2));
        no(1, "tell(1, 0, 3): to itself, too", x -> x.tell(1, 0, 3));
        no(6, "say(3)", x -> x.say(3));
        no(6, "tell(0, 3, 0)", x -> x.tell(0, 3, 0));
        no(6, "tell(0, 3, 2)", x -> x.tell(0, 3, 2));
        no(6, "follows(0, 3)", x -> x.follows(0, 3));
        for (int days : new int[] {0, -1, 100, MIN, MAX}) {
            no(1, "pass(" + days + ")", x -> x.pass(days));
        }
        Made late = () -> onDay(rich(), 950);
        for (int days : new int[] {50, 51, 99}) {
            refuses(late, 4, "pass(" + days + ") from 950", x -> x.pass(days));
        }
        for (int days : new int[] {0, 100, MIN, MAX}) {
            refuses(late, 1, "pass(" + days + ") from 950: 1 is ahead of 4", x -> x.pass(days));
        }
        refuses(() -> onDay(rich(), 999), 4, "pass(1) from 999", x -> x.pass(1));
    }

    private static void cut(int status, int a, int i, int b, int j, int meaning) {
        String call = "cut(" + a + ", " + i + ", " + b + ", " + j + ", " + meaning + ")";
        no(status, call, x -> x.cut(a, i, b, j, meaning));
    }

    /** Word 0 is "ston" by then, 1 is "tn", 2 is "tone". */
    private static void cuts() {
        for (int word : NO_WORD) {
            cut(1, word, 1, 0, 1, 0);
            cut(1, 0, 1, word, 1, 0);
            cut(1, word, 1, 3, 1, 0);
            cut(1, 3, 1, word, 1, 0);
            no(1, "bestCut(" + word + ", 0, 0)", x -> x.bestCut(word, 0, 0));
            no(1, "bestCut(0, " + word + ", 2)", x -> x.bestCut(0, word, 2));
            no(1, "bestCut(3, " + word + ", 2)", x -> x.bestCut(3, word, 2));
        }
        for (int below : new int[] {0, -1, MIN}) {
            cut(1, 0, below, 1, 1, 0);
            cut(1, 0, 1, 1, below, 0);
            cut(1, 3, below, 1, 1, 0);
            cut(1, 0, 9, 3, below, 0);
        }
        for (int meaning : NO_MEANING) {
            cut(1, 0, 1, 1, 1, meaning);
            cut(1, 3, 1, 1, 9, meaning);
        }
        cut(6, 3, 1, 0, 1, 0);
        cut(6, 0, 1, 3, 1, 0);
        cut(6, 3, 1, 3, 1, 0);
        cut(6, 3, 9, 0, 9, 0);
        cut(6, 0, MAX, 3, MAX, 0);
        cut(7, 0, 5, 1, 1, 0);
        cut(7, 1, 3, 0, 1, 0);
        cut(7, 1, 1, 0, 5, 0);
        cut(7, 0, 1, 1, 3, 0);
        cut(7, 0, MAX, 1, 1, 0);
        cut(7, 0, 1, 1, MAX, 0);
        cut(7, 0, MAX, 1, MAX, 0);
        cut(7, 1, 1, 1, 1, 0);
        cut(7, 2, 1, 2, 3, 0);
        for (int what : new int[] {-1, 3, MIN, MAX}) {
            no(1, "bestCut(0, 1, " + what + ")", x -> x.bestCut(0, 1, what));
            no(1, "bestCut(3, 1, " + what + "): 1 is ahead of 6", x -> x.bestCut(3, 1, what));
        }
        for (int what = 0; what < 3; what++) {
            int w = what;
            no(6, "bestCut(3, 0, " + w + ")", x -> x.bestCut(3, 0, w));
            no(6, "bestCut(0, 3, " + w + ")", x -> x.bestCut(0, 3, w));
            // "sto" and "ston": it loses one letter, and none from then on.
            leaves(RefusalRuns::rich, "bestCut(0, 0, " + w + ")", w == 0 ? 3 : w == 1 ? 4 : 40, x -> x.bestCut(0, 0, w));
        }
    }

    private static void fullVillage() {
        Made full = () -> {
            WornWords x = with("meaning m;speaker s;" + twelve("word w", "qqqq means m"));
            x.mark();
            return x;
        };
        refuses(full, 4, "cut(0, 1, 1, 1, 0)", x -> x.cut(0, 1, 1, 1, 0));
        refuses(full, 4, "cut(0, 9, 1, 9, 0): 4 is ahead of 7", x -> x.cut(0, 9, 1, 9, 0));
        refuses(full, 1, "cut(0, 0, 1, 1, 0): 1 is ahead of 4", x -> x.cut(0, 0, 1, 1, 0));
        refuses(full, 1, "cut(0, 1, 12, 1, 0): 1 is ahead of 4", x -> x.cut(0, 1, 12, 1, 0));
        refuses(full, 1, "cut(0, 1, 1, 1, 1): 1 is ahead of 4", x -> x.cut(0, 1, 1, 1, 1));
        refuses(full, 1, "bestCut(0, 12, 0): 1 is ahead of 4", x -> x.bestCut(0, 12, 0));
        refuses(full, 1, "bestCut(0, 1, 3): 1 is ahead of 4", x -> x.bestCut(0, 1, 3));
        for (int what = 0; what < 3; what++) {
            int w = what;
            refuses(full, 4, "bestCut(0, 1, " + w + ")", x -> x.bestCut(0, 1, w));
            refuses(() -> with("meaning m;word ab means m;word a means m;word b means m;"), 7, "bestCut(1, 2, " + w + ")", x -> x.bestCut(1, 2, w));
        }
    }

    interface RowCall {
        long on(WornWords x, int tray, int many);
    }

    private static void rows() {
        rowCall("ways", 5, WornWords::ways);
        rowCall("fewest", 5, WornWords::fewest);
        rowCall("howFar", 5, WornWords::howFar);
        rowCall("story", 5, WornWords::story);
        rowCall("readings", 6, WornWords::readings);
        no(5, "ways(1, 1): no such MEANING", x -> x.ways(1, 1));
        for (long meaning : new long[] {-1, 2, 12, 32, 1L << 32, Long.MIN_VALUE, Long.MAX_VALUE}) {
            Made wrongOne = () -> {
                WornWords x = rich();
                x.tray(0, 3, 5);
                x.write(0, 4, meaning);
                return x;
            };
            refuses(wrongOne, 5, "ways of MEANING " + meaning, x -> x.ways(0, 5));
            refuses(wrongOne, 5, "fewest of MEANING " + meaning, x -> x.fewest(0, 5));
            refuses(wrongOne, 5, "howFar of MEANING " + meaning, x -> x.howFar(0, 5));
            refuses(wrongOne, 5, "story of MEANING " + meaning, x -> x.story(0, 5));
        }
        for (long form : new long[] {0, -1, Long.MIN_VALUE}) {
            Made wrongOne = () -> {
                WornWords x = rich();
                row(x, 0, 1, 2, 3, 4, 5, form);
                return x;
            };
            refuses(wrongOne, 5, "readings of " + form, x -> x.readings(0, 6));
            leaves(wrongOne, "readings ahead of " + form, 0, x -> x.readings(0, 5));
        }
    }

    private static void rowCall(String name, int most, RowCall c) {
        for (int tray : NO_TRAY) {
            no(1, name + "(" + tray + ", 1)", x -> c.on(x, tray, 1));
        }
        for (int many : new int[] {0, -1, most + 1, MIN, MAX}) {
            no(1, name + "(0, " + many + ")", x -> c.on(x, 0, many));
            no(1, name + "(3, " + many + "): 1 is ahead of 2", x -> c.on(x, 3, many));
        }
        for (int many = 1; many <= most; many++) {
            int n = many;
            no(2, name + "(3, " + n + ")", x -> c.on(x, 3, n));
            no(3, name + "(2, " + n + ")", x -> c.on(x, 2, n));
        }
        no(3, name + "(0, 4)", x -> c.on(x, 0, 4));
        no(3, name + "(1, 4): 3 is ahead of 5", x -> c.on(x, 1, 4));
        no(5, name + "(1, 2)", x -> c.on(x, 1, 2));
        no(5, name + "(1, 3)", x -> c.on(x, 1, 3));
    }

    /** A STORY that begins well, and then has a MEANING of no word: nothing is said. */
    private static void untold() {
        Made mute = () -> {
            WornWords x = with("meaning m;meaning n;speaker s;speaker t;word abc means m;word abd means m;word q means m;");
            row(x, 0, 0, 0, 1);
            row(x, 1, 0);
            x.fewest(1, 1);
            x.gossip(3, 2);
            x.mark();
            return x;
        };
        refuses(mute, 6, "fewest(0, 3)", x -> x.fewest(0, 3));
        refuses(mute, 6, "story(0, 3)", x -> x.story(0, 3));
        refuses(mute, 6, "cheap(1)", x -> x.cheap(1));
        leaves(mute, "ways(0, 3)", 0, x -> x.ways(0, 3));
        leaves(mute, "howFar(0, 3)", 2, x -> x.howFar(0, 3));
        for (int meaning : NO_MEANING) {
            refuses(mute, 1, "cheap(" + meaning + ")", x -> x.cheap(meaning));
        }
        for (int k : new int[] {-1, 1, 2, 4, 5, 6, MIN, MAX}) {
            refuses(mute, 6, "fewestAt(" + k + ")", x -> x.fewestAt(k));
        }
        refuses(WornWords::new, 6, "fewestAt(0) of a new object", x -> x.fewestAt(0));
    }

    private static void gossips() {
        for (int seed : new int[] {-1, 10000, MIN, MAX}) {
            no(1, "gossip(" + seed + ", 1)", x -> x.gossip(seed, 1));
            noFlag(1, "odds(" + seed + ", 1, 1)", x -> flag(x.odds(seed, 1, 1)));
        }
        for (int days : new int[] {-1, 0, 61, MIN, MAX}) {
            no(1, "gossip(0, " + days + ")", x -> x.gossip(0, days));
            noFlag(1, "odds(0, 1, " + days + ")", x -> flag(x.odds(0, 1, days)));
        }
        for (int many : new int[] {-1, 0, 21, MIN, MAX}) {
            noFlag(1, "odds(0, " + many + ", 1)", x -> flag(x.odds(0, many, 1)));
            noFlag(1, "odds(9999, " + many + ", 1)", x -> flag(x.odds(9999, many, 1)));
        }
        noFlag(1, "odds(9999, 2, 1)", x -> flag(x.odds(9999, 2, 1)));
        noFlag(1, "odds(9981, 20, 1)", x -> flag(x.odds(9981, 20, 1)));
        noFlag(1, "odds(-1, 2, 1)", x -> flag(x.odds(-1, 2, 1)));
        for (int what : new int[] {-1, 4, MIN, MAX}) {
            no(1, "gossiped(" + what + ")", x -> x.gossiped(what));
            refuses(WornWords::new, 1, "gossiped(" + what + "): 1 is ahead of 6", x -> x.gossiped(what));
        }
        for (int what = 0; what < 4; what++) {
            int w = what;
            refuses(WornWords::new, 6, "gossiped(" + w + ") of a new object", x -> x.gossiped(w));
        }
        nobody("no SPEAKERS", "meaning m;word ab means m;", 6);
        nobody("no words", "meaning m;speaker s;speaker t;", 6);
        nobody("nothing at all", "", 6);
        Made alone = () -> heardBefore("meaning m;speaker s;word ab means m;");
        refusesFlag(alone, 6, "odds of one alone", x -> flag(x.odds(0, 20, 60)));
        Made gone = () -> {
            WornWords x = heardBefore("meaning m;speaker s;speaker t;word a means m;");
            x.say(0);
            return x;
        };
        refusesFlag(gone, 6, "odds of a word that is GONE", x -> flag(x.odds(0, 20, 60)));
    }

    /** Another VILLAGE than that of which the FRACTION and gossiped() tell. */
    private static WornWords heardBefore(String text) {
        WornWords x = rich();
        x.law(0);
        village(x, text);
        return x;
    }

    private static void nobody(String why, String text, int status) {
        Made made = () -> heardBefore(text);
        refuses(made, status, "gossip, " + why, x -> x.gossip(0, 1));
        refuses(made, 1, "gossip, " + why + ": 1 is ahead of 6", x -> x.gossip(0, 0));
        refuses(made, 1, "gossip, " + why + ": 1 is ahead of 6", x -> x.gossip(10000, 1));
        refusesFlag(made, status, "odds, " + why, x -> flag(x.odds(0, 1, 1)));
        refusesFlag(made, 1, "odds, " + why + ": 1 is ahead of 6", x -> flag(x.odds(0, 0, 1)));
        refusesFlag(made, 1, "odds, " + why + ": 1 is ahead of 6", x -> flag(x.odds(9999, 2, 1)));
    }

    private static void marks() {
        Made three = () -> {
            WornWords x = rich();
            x.say(0);
            x.mark();
            x.say(1);
            return x;
        };
        refuses(three, 4, "a fourth mark()", x -> x.mark());
        refuses(() -> {
            WornWords x = rich();
            x.back();
            x.back();
            x.say(2);
            return x;
        }, 6, "back() without a MARK", x -> x.back());
        refuses(WornWords::new, 6, "back() of a new object", x -> x.back());
    }

    /** feed() beyond 900 gives NONE, fault() of others NONE; neither has a STATUS. */
    private static void withoutStatus() {
        Made full = () -> {
            WornWords x = rich();
            feed(x, " ".repeat(880));
            x.say(-1);
            return x;
        };
        WornWords x = full.make();
        due("feed beyond 900", x.feed(1, 2, 3, 4, 5), -1);
        due("its status", x.status(), 1);
        due("again", x.feed(0x41414141, 0, 0, 0, 0), -1);
        same("feed beyond 900", everything(x, true), everything(full.make(), true));
        x = full.make();
        due("the full tape is what was fed", x.village(900), -1);
        due("its FAULT", x.fault(0), 2);
        due("its place", x.fault(1), 19);
        for (int what : new int[] {-1, 2, 9, MIN, MAX}) {
            due("fault(" + what + ")", x.fault(what), -1);
        }
        due("status() of the village() ahead", x.status(), 9);
        x.told(0);
        x.fault(7);
        x.top();
        x.bottom();
        x.feed(0, 0, 0, 0, 0);
        due("status() of the told() ahead", x.status(), 0);
    }

    private static void zero(String call, long want, Call c) {
        WornWords x = rich();
        refused(x, "form(-1)", x.form(-1), 1);
        given(x, call + " behind a refused call", c.on(x), want);
        refused(x, "read(3, 0)", x.read(3, 0), 2);
        given(x, "told(4)", x.told(4), 3);
    }

    /** Word 0 is "ston" by then, 1 is "tn", 2 is "tone". */
    private static void zeroElse() {
        promise = "2: 0 else";
        zero("tray", 1, x -> flag(x.tray(0, 0, 1)));
        zero("write", 1, x -> flag(x.write(0, 0, 1)));
        zero("read", 1, x -> x.read(0, 1));
        zero("pour", 1, x -> flag(x.pour(0, 0, 0, 1, 1)));
        zero("law", 0, x -> x.law(0));
        zero("told", 2, x -> x.told(0));
        zero("form", number("tn"), x -> x.form(1));
        zero("word", 2, x -> x.word(1, 0));
        zero("words", 5, x -> x.words(0));
        zero("loses", 0, x -> x.loses(1));
        zero("chain", number("n"), x -> x.chain(1, 1));
        zero("chain", 0, x -> x.chain(1, 2));
        zero("life", 2, x -> x.life(1));
        zero("common", 2, x -> x.common(0, 1));
        zero("rhymes", 1, x -> x.rhymes(1, 1));
        zero("lone", 0, x -> x.lone());
        zero("mute", 0, x -> x.mute());
        zero("lasts", 6, x -> x.lasts(1));
        zero("spread", 1, x -> x.spread(1));
        zero("wintry", 1, x -> x.wintry());
        zero("say", 1, x -> x.say(1));
        zero("tell", 2, x -> x.tell(0, 1, 2));
        zero("follows", 1, x -> x.follows(0, 1));
        zero("knows", number("ton"), x -> x.knows(0, 1));
        zero("winter", 1, x -> x.winter());
        zero("cut", 3, x -> x.cut(0, 1, 2, 1, 0));
        zero("bestCut", 4, x -> x.bestCut(1, 1, 2));
        zero("ways", 4, x -> x.ways(0, 2));
        zero("fewest", 2, x -> x.fewest(0, 2));
        zero("fewestAt", 1, x -> x.fewestAt(1));
        zero("howFar", 3, x -> x.howFar(0, 3));
        zero("cheap", 2, x -> x.cheap(1));
        zero("story", 2, x -> x.story(0, 2));
        zero("readings", 0, x -> x.readings(1, 1));
        zero("gossiped", 3, x -> x.gossiped(0));
        zero("odds", 1, x -> flag(x.odds(0, 1, 5)));
        zero("mark", 3, x -> x.mark());
        // Day 1 draws word 3, which is GONE; day 2 word 1, which the other SPEAKER knows as "ton".
        zero("gossip", 1, x -> x.gossip(0, 2));
        WornWords x = rich();
        refused(x, "form(-1)", x.form(-1), 1);
        given(x, "village(11)", x.village(11), 0);
        refused(x, "form(-1)", x.form(-1), 1);
        given(x, "pass(1)", x.pass(1), 1);
        refused(x, "form(-1)", x.form(-1), 1);
        given(x, "back()", x.back(), 1);
        x = with("meaning m;word ab means m;word a means m;");
        refused(x, "form(-1)", x.form(-1), 1);
        given(x, "twin(0, 0)", x.twin(0, 0), 1);
        refused(x, "form(-1)", x.form(-1), 1);
        given(x, "twin(0, 1)", x.twin(0, 1), 1);
    }
}
