/** The edges of TRAYS, words, sayings, SPEAKERS, winters, CUTS and CHAINS, a sentence of the document each. */
public final class WordEdges extends Checks {
    private static final String[] COMPARES = {"<", ">", "="};

    public static void main(String[] args) {
        newObject();
        statuses();
        trays();
        cutToSort();
        pours();
        lettersLost();
        softAndHard();
        firstRuleThatHolds();
        sizes();
        saids();
        days();
        idles();
        sharedOnes();
        lettersAsked();
        deepestLaws();
        longestLaws();
        gone();
        unions();
        unionsOfSayings();
        unionsAndWinter();
        unionsAndSpeakers();
        understanding();
        hearing();
        hearers();
        passing();
        winters();
        wintersOneBehindTheOther();
        wintersAlike();
        wordAnswers();
        sets();
        common();
        rhymes();
        lasting();
        spreads();
        chains();
        lives();
        twins();
        chainsToday();
        cutLengths();
        cutNumbers();
        cutSayings();
        bestCuts();
        bestCutLives();
        marks();
        end("the edges of words hold");
    }

    private static void newObject() {
        promise = "1: a new object";
        WornWords x = new WornWords();
        due("status", x.status(), 0);
        due("top", x.top(), 0);
        due("bottom", x.bottom(), 1);
        due("fault(0)", x.fault(0), -1);
        due("status", x.status(), 0);
        due("an empty tape", x.feed(0, 0, 0, 0, 0), 20);
        for (int what = 0; what < 6; what++) {
            given(x, "told(" + what + ")", x.told(what), 0);
        }
        for (int tray = 0; tray < 4; tray++) {
            refused(x, "MISSING", x.read(tray, 0), 2);
            refused(x, "MISSING", x.write(tray, 0, 0), 2);
            refused(x, "MISSING", x.pour(tray, 0, tray, 0, 0), 2);
        }
        refused(x, "no word", x.form(0), 1);
        refused(x, "no MEANING", x.words(0), 1);
        refused(x, "no SPEAKER", x.tell(0, 0, 0), 1);
        refused(x, "no MARK", x.back(), 6);
        refused(x, "no row", x.fewestAt(0), 6);
        refused(x, "no gossip", x.gossiped(0), 6);
        given(x, "lone", x.lone(), 0);
        given(x, "mute", x.mute(), 0);
        given(x, "wintry", x.wintry(), 0);
        given(x, "winter", x.winter(), 0);
        given(x, "pass", x.pass(1), 1);
        given(x, "mark", x.mark(), 1);
        WornWords other = new WornWords();
        given(other, "objects have nothing in common", other.told(4), 0);
        refused(other, "nor MARKS", other.back(), 6);
    }

    private static void statuses() {
        promise = "2: STATUS of the latest call that has one";
        WornWords x = new WornWords();
        x.form(0);
        due("status", x.status(), 1);
        due("again", x.status(), 1);
        x.top();
        x.bottom();
        x.fault(0);
        x.fault(-1);
        x.feed(0, 0, 0, 0, 0);
        due("others have none", x.status(), 1);
        x.read(0, 0);
        due("status", x.status(), 2);
        x.tray(0, 0, 0);
        due("status", x.status(), 0);
        x.read(0, 0);
        due("status", x.status(), 3);
        x.lone();
        due("status", x.status(), 0);
        x.village(20);
        due("status", x.status(), 9);
        x.mute();
        due("status", x.status(), 0);
    }

    // ------------------------------------------------------------------ TRAYS

    private static void trays() {
        promise = "5: TRAYS 0 to 3, rows of 0 to 60 numbers, sorts 0 to 3";
        for (int sort = 0; sort < 4; sort++) {
            for (int many : new int[] {0, 1, 2, 59, 60}) {
                WornWords x = new WornWords();
                given(x, "tray", x.tray(sort, sort, many));
                if (many > 0) {
                    given(x, "read the first", x.read(sort, 0), 0);
                    given(x, "read the last", x.read(sort, many - 1), 0);
                    given(x, "write the last", x.write(sort, many - 1, 9));
                    given(x, "read the last", x.read(sort, many - 1), 9);
                    given(x, "write the first", x.write(sort, 0, 8));
                    given(x, "read the first", x.read(sort, 0), 8);
                }
                refused(x, "read behind the last", x.read(sort, many), 3);
                refused(x, "write behind the last", x.write(sort, many, 1), 3);
                refused(x, "read ahead of the first", x.read(sort, -1), 3);
                refused(x, "write ahead of the first", x.write(sort, -1, 1), 3);
                refused(x, "the others are MISSING", x.read((sort + 1) % 4, 0), 2);
            }
        }
        refusesFlag(WornWords::new, 1, "61 numbers", x -> x.tray(0, 0, 61) ? 1 : 0);
        refusesFlag(WornWords::new, 1, "-1 numbers", x -> x.tray(0, 0, -1) ? 1 : 0);
        WornWords x = new WornWords();
        x.tray(0, 3, 60);
        for (int k = 0; k < 60; k++) {
            x.write(0, k, k + 1);
        }
        given(x, "a smaller one in its place", x.tray(0, 0, 2));
        refused(x, "place 2", x.read(0, 2), 3);
        given(x, "of 0s", x.read(0, 1), 0);
        given(x, "a greater one in its place", x.tray(0, 3, 60));
        for (int k = 0; k < 60; k++) {
            given(x, "of 0s, place " + k, x.read(0, k), 0);
        }
        given(x, "one without places in its place", x.tray(0, 3, 0));
        refused(x, "is not MISSING", x.read(0, 0), 3);
    }

    private static void cutToSort() {
        promise = "6, 7: cut to its sort; STATUS tells NONE from -1";
        long[][] rows = {
            {127, 127, 127, 127},
            {32767, -1, 32767, 32767},
            {128, -128, 128, 128},
            {-128, -128, -128, -128},
            {-129, 127, -129, -129},
            {255, -1, 255, 255},
            {256, 0, 256, 256},
            {32768, 0, -32768, 32768},
            {-32769, -1, 32767, -32769},
            {65535, -1, -1, 65535},
            {65536, 0, 0, 65536},
            {2147483647L, -1, -1, 2147483647L},
            {2147483648L, 0, 0, -2147483648L},
            {-2147483648L, 0, 0, -2147483648L},
            {-2147483649L, -1, -1, 2147483647L},
            {4294967295L, -1, -1, -1},
            {4294967296L, 0, 0, 0},
            {Long.MAX_VALUE, -1, -1, -1},
            {Long.MIN_VALUE, 0, 0, 0},
            {-1, -1, -1, -1},
            {0, 0, 0, 0},
        };
        WornWords x = new WornWords();
        for (int sort = 0; sort < 4; sort++) {
            x.tray(sort, sort, 3);
        }
        for (long[] row : rows) {
            for (int sort = 0; sort < 4; sort++) {
                given(x, "write " + row[0] + " to sort " + sort, x.write(sort, 1, row[0]));
                given(x, "read " + row[0] + " of sort " + sort, x.read(sort, 1), sort == 3 ? row[0] : row[sort + 1]);
            }
        }
        given(x, "the place ahead", x.read(0, 0), 0);
        given(x, "the place behind", x.read(3, 2), 0);
    }

    private static void pours() {
        promise = "8: so many numbers of a TRAY, as they were";
        for (int sort = 0; sort < 4; sort++) {
            WornWords x = new WornWords();
            x.tray(0, sort, 5);
            x.tray(1, sort, 3);
            for (int k = 0; k < 5; k++) {
                x.write(0, k, k == 4 ? -1 : Long.MAX_VALUE >> k);
            }
            long last = x.read(0, 3);
            given(x, "the last ones to the last places", x.pour(0, 3, 1, 1, 2));
            given(x, "read(1, 0)", x.read(1, 0), 0);
            given(x, "read(1, 1)", x.read(1, 1), last);
            given(x, "read(1, 2)", x.read(1, 2), -1);
            given(x, "read(0, 3)", x.read(0, 3), last);
            given(x, "none at the very end", x.pour(0, 5, 1, 3, 0));
            refused(x, "none behind the very end", x.pour(0, 6, 1, 3, 0), 3);
            refused(x, "none behind the other's very end", x.pour(0, 5, 1, 4, 0), 3);
            given(x, "all three", x.pour(0, 0, 1, 0, 3));
            refused(x, "four to three", x.pour(0, 0, 1, 0, 4), 3);
            refused(x, "four of three", x.pour(1, 0, 0, 0, 4), 3);
            refused(x, "the last one of three and one more", x.pour(1, 2, 0, 0, 2), 3);
        }
        WornWords x = new WornWords();
        row(x, 2, 1, 2, 3, 4, 5);
        given(x, "to itself, the same places", x.pour(2, 0, 2, 0, 5));
        given(x, "to itself, up", x.pour(2, 0, 2, 1, 4));
        for (int k = 0; k < 5; k++) {
            given(x, "as they were, place " + k, x.read(2, k), Math.max(1, k));
        }
        row(x, 2, 1, 2, 3, 4, 5);
        given(x, "to itself, down", x.pour(2, 1, 2, 0, 4));
        for (int k = 0; k < 5; k++) {
            given(x, "as they were, place " + k, x.read(2, k), Math.min(5, k + 2));
        }
        x.tray(0, 3, 0);
        given(x, "none of none", x.pour(0, 0, 0, 0, 0));
        given(x, "none of none to some", x.pour(0, 0, 2, 5, 0));
        refused(x, "one of none", x.pour(0, 0, 2, 0, 1), 3);
        x.tray(1, 3, 60);
        x.tray(3, 3, 60);
        x.write(1, 59, 7);
        given(x, "sixty", x.pour(1, 0, 3, 0, 60));
        given(x, "the last of sixty", x.read(3, 59), 7);
        refused(x, "sixty-one", x.pour(1, 0, 3, 0, 61), 3);
    }

    // ------------------------------------------------------------------ the LAW

    private static void loses(String word, String which, int place) {
        WornWords x = with("meaning m;word " + word + " means m;", "if size>0 drop " + which + ";");
        given(x, "loses of " + word + " by " + which, x.loses(0), place);
        String left = place < 0 ? word : word.substring(0, place) + word.substring(place + 1);
        given(x, "say of " + word + " by " + which, x.say(0), left.length());
        isForm(x, 0, left);
        given(x, "lost", x.word(0, 4), left.isEmpty() || place < 0 ? 0 : 1);
    }

    private static void lettersLost() {
        promise = "17, 28: first, last, at half its size (rounded down, places from 0), the last VOWEL, or none";
        int[] half = {0, 1, 1, 2, 2, 3, 3, 4};
        for (int size = 1; size <= 8; size++) {
            String word = "bcdfghjk".substring(0, size);
            loses(word, "first", 0);
            loses(word, "last", size - 1);
            loses(word, "middle", half[size - 1]);
            loses(word, "none", -1);
            loses(word, "vowel", size - 1);
            loses("a" + word.substring(1), "vowel", 0);
            loses(word.substring(1) + "u", "vowel", size - 1);
            if (size > 2) {
                loses("e" + word.substring(2) + "o", "vowel", size - 1);
                loses(word.substring(2) + "ib", "vowel", size - 2);
            }
        }
        for (char c = 'a'; c <= 'z'; c++) {
            loses("x" + c + "x", "vowel", "aeiou".indexOf(c) >= 0 ? 1 : 2);
        }
        WornWords x = with("meaning m;word bcdfghjk means m;");
        for (int size = 8; size > 0; size--) {
            given(x, "without a RULE the last", x.loses(0), size - 1);
            given(x, "say", x.say(0), size - 1);
        }
    }

    private static void softAndHard() {
        promise = "17, 28: the softest (of several the first), the hardest (of several the last)";
        loses("aaaa", "soft", 0);
        loses("aaaa", "hard", 3);
        loses("baab", "soft", 1);
        loses("baab", "hard", 3);
        loses("abba", "soft", 0);
        loses("abba", "hard", 2);
        loses("z", "soft", 0);
        loses("a", "hard", 0);
        loses("zyxwvuts", "soft", 7);
        loses("zyxwvuts", "hard", 0);
        WornWords x = with("meaning m;soft z;word zaz means m;word aza means m;word az means m;", "if size>0 drop soft;");
        given(x, "soft of zaz", x.loses(0), 0);
        given(x, "soft of aza", x.loses(1), 1);
        law(x, "if size>0 drop hard;");
        given(x, "hard of zaz", x.loses(0), 1);
        given(x, "hard of aza", x.loses(1), 2);
        given(x, "hard of az", x.loses(2), 0);
    }

    private static void firstRuleThatHolds() {
        promise = "17: the first RULE that holds for it as it is; without such a RULE the last";
        WornWords x = with("meaning m;word abcdefgh means m;");
        law(x, "if size<8 drop first;".repeat(11) + "if size=8 drop middle;");
        given(x, "the twelfth", x.loses(0), 4);
        law(x, "if size=8 drop none;" + "if size>0 drop first;".repeat(11));
        given(x, "the first", x.loses(0), -1);
        law(x, "if size<8 drop first;".repeat(12));
        given(x, "no one", x.loses(0), 7);
        given(x, "no one", x.say(0), 7);
        given(x, "all of them then", x.loses(0), 0);
        law(x, "if said=1 drop first;if said=2 drop middle;");
        given(x, "as it is ahead of the saying", x.say(0), 6);
        isForm(x, 0, "bcdefg");
        given(x, "as it is then", x.say(0), 5);
        isForm(x, 0, "bcdfg");
    }

    /** What a CASE says of word 0, by each compare with numbers about an amount. */
    private static void isAmount(Made made, String kind, int amount) {
        WornWords x = made.make();
        for (int n : new int[] {0, 1, amount - 1, amount, amount + 1, 98, 99}) {
            for (String c : COMPARES) {
                if (n >= 0 && n <= 99) {
                    boolean holds = c.equals("<") ? amount < n : c.equals(">") ? amount > n : amount == n;
                    law(x, "if " + kind + c + n + " drop none;");
                    due(kind + c + n + " of " + amount, x.loses(0) == -1, holds);
                }
            }
        }
    }

    private static void sizes() {
        promise = "11, 17: size: how many letters";
        for (int size = 1; size <= 8; size++) {
            String word = "abcdefgh".substring(0, size);
            isAmount(() -> with("meaning m;word " + word + " means m;"), "size", size);
        }
        isAmount(() -> said(with("meaning m;word abcdefgh means m;"), 0, 5), "size", 3);
    }

    private static void saids() {
        promise = "11, 17: said: how often it was said";
        for (int times : new int[] {0, 1, 2, 97, 98, 99, 100, 101, 200}) {
            isAmount(() -> said(with("meaning m;word ab means m;", "if size>0 drop none;"), 0, times), "said", times);
        }
    }

    private static void days() {
        promise = "11, 17: day: the DAY (at 99 it stays)";
        for (int day : new int[] {0, 1, 50, 97, 98, 99, 100, 101, 198, 998, 999}) {
            isAmount(() -> onDay(with("meaning m;word ab means m;"), day), "day", Math.min(day, 99));
        }
    }

    private static void idles() {
        promise = "11, 17: idle: how many days ago it was said latest (from DAY 0, if never; at 99 it stays)";
        for (int day : new int[] {0, 1, 97, 98, 99, 100, 101, 999}) {
            isAmount(() -> onDay(with("meaning m;word ab means m;"), day), "idle", Math.min(day, 99));
            isAmount(() -> said(onDay(with("meaning m;word ab means m;"), day), 0, 1), "idle", 0);
        }
        for (int idle : new int[] {0, 1, 97, 98, 99, 100, 101, 500}) {
            for (int first : new int[] {0, 1, 99, 100, 400}) {
                isAmount(() -> onDay(said(onDay(with("meaning m;word ab means m;"), first), 0, 1), first + idle), "idle", Math.min(idle, 99));
            }
        }
        WornWords x = with("meaning m;word ab means m;word cd means m;", "if idle=7 drop none;");
        onDay(x, 7);
        x.say(1);
        given(x, "another one's saying is none of its own", x.loses(0), -1);
        x.winter();
        given(x, "a winter is no saying", x.loses(0), -1);
        given(x, "cut", x.cut(0, 1, 1, 1, 0), 2);
        given(x, "a new word was never said: from DAY 0", x.loses(2), -1);
    }

    private static void sharedOnes() {
        promise = "11, 17: shared: it has more than one MEANING";
        String all = "ma mb mc md me mf mg mh mi mj mk ml";
        for (int many = 1; many <= 12; many++) {
            WornWords x = with(twelve("meaning m", "") + "word ab means " + all.substring(0, 3 * many - 1) + ";", "if shared drop none;");
            given(x, many + " MEANINGS", x.loses(0), many > 1 ? -1 : 1);
        }
        WornWords x = with("meaning m;meaning n;word ab means m;word abc means n;word abd means m;", "if shared drop none;");
        given(x, "one MEANING", x.loses(0), 1);
        x.say(2);
        given(x, "of two words with the same MEANING", x.loses(0), 1);
        x.say(1);
        given(x, "of two words with unlike MEANINGS", x.loses(0), -1);
    }

    private static void asks(String word, String asked, boolean want) {
        WornWords x = with("meaning m;word " + word + " means m;", "if " + asked + " drop none;");
        due(asked + " of " + word, x.loses(0) == -1, want);
    }

    private static void lettersAsked() {
        promise = "11, 17: begins, ends, has: with, with, that letter (vowel: a VOWEL)";
        for (char c = 'a'; c <= 'z'; c++) {
            boolean vowel = "aeiou".indexOf(c) >= 0;
            char other = c == 'q' ? 'r' : 'q';
            for (String kind : new String[] {"begins", "ends", "has"}) {
                asks("" + c, kind + " " + c, true);
                asks("" + other, kind + " " + c, false);
                asks("" + c, kind + " vowel", vowel);
            }
            asks(c + "qqqqqqr", "begins " + c, true);
            asks("r" + c + "rrrr", "begins " + c, c == 'r');
            asks("rqqqqqq" + c, "ends " + c, true);
            asks("qqqq" + c + "t", "ends " + c, c == 't');
            asks("qqqq" + c + "t", "has " + c, true);
            asks(c + "qqqqqqt", "has " + c, true);
            asks("tqqqqqq" + c, "has " + c, true);
            asks("qqq" + c + "qqq", "has vowel", vowel);
            asks("q" + c, "begins vowel", false);
            asks(c + "q", "ends vowel", false);
        }
    }

    /** What is asked within so many brackets: thirteen answers wait for one another before any two are joined. */
    private static String nested(int answers, int level) {
        String or = answer(answers, 2 * level) + "or ";
        String and = answer(answers, 2 * level + 1) + "and";
        return or + and + (level < 5 ? "(" + nested(answers, level + 1) + ")" : " " + answer(answers, 12));
    }

    private static String answer(int answers, int place) {
        return (answers >> place & 1) == 1 ? "size>0" : "size<0";
    }

    private static boolean holds(int answers, int level) {
        boolean or = (answers >> 2 * level & 1) == 1;
        boolean and = (answers >> 2 * level + 1 & 1) == 1;
        return or || and && (level < 5 ? holds(answers, level + 1) : (answers >> 12 & 1) == 1);
    }

    private static void deepestLaws() {
        promise = "11, 17: EITHER, BOTH and ONE within as many brackets as can be, for all answers of the ONES";
        WornWords x = null;
        for (int answers = 0; answers < 1 << 13; answers++) {
            if (answers % 30 == 0) {
                x = with("meaning m;word abc means m;");
            }
            String law = nested(answers, 0);
            due("if " + law, law(x, "if " + law + " drop first;"), 1);
            due(law, x.loses(0) == 0, holds(answers, 0));
        }
    }

    private static void longestLaws() {
        promise = "11, 17: as many ONES as a LAW can have, with as many nots as it has bytes for";
        for (int so = 0; so <= 10; so++) {
            StringBuilder b = new StringBuilder("if ");
            for (int k = 0; k < 10; k++) {
                b.append(k > 0 ? "or " : "").append("not not not not not day").append(k == so ? ">0" : "<1");
            }
            WornWords x = with("meaning m;word abc means m;", b + "drop first;");
            given(x, "ten ONES of five nots each, so is " + so, x.loses(0), so < 10 ? 0 : 2);
        }
        for (int so = 0; so <= 12; so++) {
            StringBuilder b = new StringBuilder();
            for (int k = 0; k < 12; k++) {
                b.append("if not day").append(k == so ? ">0 drop first;" : "<1 drop none;");
            }
            WornWords x = with("meaning m;word abc means m;", b.toString());
            given(x, "twelve RULES, so is " + so, x.loses(0), so < 12 ? 0 : 2);
        }
    }

    // ------------------------------------------------------------------ sayings

    private static void gone() {
        promise = "28: without letters it is GONE";
        for (int size = 1; size <= 8; size++) {
            WornWords x = with("meaning m;speaker s;speaker t;word " + "abcdefgh".substring(0, size) + " means m;word z means m;");
            for (int left = size - 1; left > 0; left--) {
                given(x, "say", x.say(0), left);
                given(x, "told(5)", x.told(5), 2);
            }
            given(x, "the last letter", x.say(0), 0);
            given(x, "told(5)", x.told(5), 1);
            given(x, "told(1)", x.told(1), 2);
            given(x, "form", x.form(0), 0);
            long[] due = {0, 0, size, 0, 0, size};
            for (int what = 0; what < 6; what++) {
                given(x, "word(0, " + what + ")", x.word(0, what), due[what]);
            }
            given(x, "words(0)", x.words(0), 2);
            refused(x, "say", x.say(0), 6);
            given(x, "said no more", x.word(0, 2), size);
            given(x, "winter", x.winter() + x.winter() + x.wintry(), 0);
            given(x, "the other one is as it was", x.form(1), 26);
        }
        WornWords x = with("meaning m;word a means m;word ab means m;word b means m;");
        x.say(0);
        given(x, "to be alike to what is GONE is to be alike to none", x.say(1), 1);
        isForm(x, 1, "a");
        given(x, "all GONE", x.say(1) + x.say(2), 0);
        given(x, "told(5)", x.told(5), 0);
        given(x, "GONE ones are not alike", x.told(1), 3);
    }

    private static void unions() {
        promise = "28: the two are ONE: the lesser number stays, has the MEANINGS of both; the greater one is GONE";
        WornWords x = with("meaning k;meaning l;meaning m;word ab means k;word abc means l;word zz means m;");
        given(x, "the greater one is said", x.say(1), 0);
        isForm(x, 0, "ab");
        isForm(x, 1, "");
        given(x, "MEANINGS", x.word(0, 1), 3);
        given(x, "none of the one that is GONE", x.word(1, 1), 0);
        given(x, "told(5)", x.told(5), 2);
        refused(x, "it can't be said", x.say(1), 6);
        x = with("meaning k;meaning l;meaning m;word abc means k m;word ab means l m;word zz means m;");
        given(x, "the lesser one is said", x.say(0), 2);
        isForm(x, 0, "ab");
        isForm(x, 1, "");
        given(x, "MEANINGS", x.word(0, 1), 7);
        given(x, "told(5)", x.told(5), 2);
        x = with("meaning m;" + twelve("word w", " means m") .replace("word wa means", "word wlx means"));
        given(x, "the first and the last word", x.say(0), 2);
        given(x, "told(5)", x.told(5), 11);
        isForm(x, 11, "");
        x = with("meaning m;word ab means m;word cab means m;", "if begins c drop none;");
        given(x, "none goes, none is alike", x.say(1), 3);
        given(x, "told(5)", x.told(5), 2);
        x = with("meaning m;word a means m;word b means m;");
        given(x, "one letter and another one", x.say(0), 0);
        given(x, "is GONE alone", x.word(1, 2), 0);
    }

    private static void unionsOfSayings() {
        promise = "28: was said as often as both together, latest today";
        for (int said = 0; said < 2; said++) {
            WornWords x = with("meaning k;word abcx means k;word abcyz means k;", "if has x or has z or size=3 drop last;if size<9 drop none;");
            x.pass(2);
            given(x, "say", x.say(0), 3);
            law(x, "if size>0 drop none;");
            x.say(0);
            x.say(1);
            x.say(1);
            given(x, "said", x.word(0, 2) * 10 + x.word(1, 2), 22);
            x.pass(5);
            law(x, "if has y drop last;if size>0 drop none;");
            given(x, "say", x.say(1), 4);
            x.pass(1);
            if (said == 0) {
                given(x, "the greater one is said", x.say(1), 0);
            } else {
                given(x, "the lesser one is said", x.say(0), 3);
                given(x, "the greater one, then", x.say(1), 0);
            }
            given(x, "said together", x.word(0, 2), 6 + said);
            given(x, "latest", x.word(0, 3), 8);
        }
        WornWords x = with("meaning k;word ab means k;word abc means k;");
        onDay(x, 3);
        x.say(1);
        given(x, "one never said and one that was", x.word(0, 2), 1);
        given(x, "latest", x.word(0, 3), 3);
        x = with("meaning k;word ab means k;word abc means k;", "if idle>0 drop none;");
        onDay(x, 3);
        law(x, "");
        x.say(1);
        law(x, "if idle=0 and said=1 drop none;");
        given(x, "the LAW sees it", x.loses(0), -1);
    }

    private static void unionsAndWinter() {
        promise = "28, 33: neither gets letters back any more of those that it lost up to then";
        WornWords x = with("meaning k;word abcd means k;word abcef means k;");
        x.say(0);
        given(x, "lost", x.word(0, 4), 1);
        x.say(1);
        given(x, "lost", x.word(1, 4), 1);
        given(x, "ONE", x.say(1), 0);
        given(x, "none can come back", x.word(0, 4), 0);
        given(x, "none of the other one", x.word(1, 4), 0);
        given(x, "wintry: said since", x.wintry(), 0);
        given(x, "winter", x.winter(), 0);
        given(x, "wintry", x.wintry(), 0);
        given(x, "winter", x.winter(), 0);
        isForm(x, 0, "abc");
        given(x, "what it loses from then on", x.say(0), 2);
        given(x, "can come back", x.word(0, 4), 1);
        given(x, "winter", x.winter(), 0);
        given(x, "wintry", x.wintry(), 1);
        given(x, "winter", x.winter(), 1);
        isForm(x, 0, "abc");
        given(x, "but not more", x.winter(), 0);
        given(x, "it had at first", x.word(0, 5), 4);
        x = with("meaning k;word abx means k;word abcd means k;", "if has x drop last;if has d drop last;");
        x.say(0);
        x.winter();
        given(x, "not said since the winter, and lost one", x.wintry(), 1);
        x.say(1);
        x.say(1);
        given(x, "ONE, today", x.told(5), 1);
        given(x, "no winter gives back", x.winter() + x.winter(), 0);
    }

    private static void unionsAndSpeakers() {
        promise = "29 to 31: of a word that two have become SPEAKERS know what they knew of the one that stays";
        WornWords x = with("meaning k;speaker s;speaker t;speaker u;word abcde means k;word abcdef means k;");
        x.tell(0, 1, 2);
        given(x, "the greater one is GONE", x.word(1, 0), 0);
        for (int speaker = 0; speaker < 3; speaker++) {
            given(x, "knows the one that stays", x.knows(speaker, 0), number("abcde"));
        }
        x = with("meaning k;speaker s;speaker t;speaker u;word abcdef means k;word abcde means k;");
        given(x, "tell", x.tell(0, 0, 4), 4);
        given(x, "the greater one is GONE", x.word(1, 0), 0);
        for (int speaker = 0; speaker < 3; speaker++) {
            given(x, "knows the one that stays", x.knows(speaker, 0), number("abcdef"));
        }
        given(x, "tell again", x.tell(0, 0, 2), 2);
        given(x, "who heard", x.knows(1, 0), number("abcde"));
        given(x, "who said", x.knows(0, 0), number("abcde"));
        given(x, "who did not hear", x.knows(2, 0), number("abcdef"));
    }

    private static void understanding() {
        promise = "29, 30: it UNDERSTANDS, if it knows the word by that FORM, or without one letter, or without two";
        for (String which : new String[] {"first", "last", "middle"}) {
            for (int size = 3; size <= 8; size++) {
                for (int lost = 0; lost < size; lost++) {
                    String word = "abcdefgh".substring(0, size);
                    WornWords x = said(with("meaning m;speaker s;speaker t;word " + word + " means m;", "if size>0 drop " + which + ";"), 0, lost);
                    given(x, "follows, " + lost + " letters lost", x.follows(1, 0), lost <= 2 ? 1 : 0);
                    given(x, "it only asks", x.follows(1, 0), lost <= 2 ? 1 : 0);
                    given(x, "tell, " + lost + " letters lost", x.tell(0, 0, 2), lost <= 2 ? 2 : 0);
                }
            }
        }
        WornWords x = with("meaning m;speaker s;speaker t;word abcd means m;", "if said=0 drop first;if said=1 drop last;if said=2 drop none;");
        x.say(0);
        x.say(0);
        isForm(x, 0, "bc");
        given(x, "one letter of each end", x.tell(0, 0, 2), 2);
        given(x, "known as", x.knows(1, 0), number("bc"));
        x.winter();
        given(x, "winter", x.winter(), 1);
        isForm(x, 0, "bcd");
        given(x, "more letters than it knows: not", x.follows(1, 0), 0);
        given(x, "told so, not understood", x.tell(0, 0, 2), 0);
        given(x, "but known so from then on", x.knows(1, 0), number("bcd"));
        x = with("meaning m;speaker s;speaker t;word abcd means m;", "if said=0 drop last;if said=1 drop none;if size=4 drop first;");
        x.say(0);
        x.tell(0, 0, 2);
        x.winter();
        x.winter();
        isForm(x, 0, "abcd");
        x.say(0);
        isForm(x, 0, "bcd");
        given(x, "as many letters, but others: not", x.follows(1, 0), 0);
        x.say(0);
        isForm(x, 0, "bc");
        given(x, "one less, and of those: so", x.follows(1, 0), 1);
        x = with("meaning m;speaker s;speaker t;word abca means m;", "if said=0 drop first;if said=1 drop none;if size=4 drop last;if size=3 drop first;");
        x.say(0);
        x.tell(0, 0, 2);
        given(x, "known as", x.knows(1, 0), number("bca"));
        x.winter();
        x.winter();
        x.say(0);
        isForm(x, 0, "abc");
        given(x, "the same letters in another order: not", x.follows(1, 0), 0);
        for (int less = 1; less <= 2; less++) {
            x = with("meaning m;speaker s;speaker t;word abcde means m;", "if day=0 and size=5 drop middle;if day=0 drop none;if size>3 drop first;");
            x.say(0);
            x.tell(0, 0, 2);
            given(x, "known as", x.knows(1, 0), number("abde"));
            x.winter();
            x.winter();
            isForm(x, 0, "abcde");
            x.pass(1);
            said(x, 0, 1 + less);
            isForm(x, 0, less == 1 ? "cde" : "cd");
            given(x, less + " letters less, but one that it doesn't know: not", x.follows(1, 0), 0);
            given(x, "told so, not understood", x.tell(0, 0, 2), 0);
        }
    }

    private static void hearing() {
        promise = "29: each hears the FORM as it is ahead of losing the letter; all who hear (and who says it) know it by that FORM then";
        WornWords x = with("meaning m;speaker s;speaker t;speaker u;speaker v;word abcdefgh means m;");
        x.say(0);
        given(x, "to some", x.tell(1, 0, 1 + 8), 1 + 8);
        given(x, "who heard", x.knows(0, 0), number("abcdefg"));
        given(x, "who said", x.knows(1, 0), number("abcdefg"));
        given(x, "who did not", x.knows(2, 0), number("abcdefgh"));
        given(x, "who heard", x.knows(3, 0), number("abcdefg"));
        isForm(x, 0, "abcdef");
        given(x, "to nobody", x.tell(2, 0, 0), 0);
        given(x, "who said, alone", x.knows(2, 0), number("abcdef"));
        given(x, "another one", x.knows(1, 0), number("abcdefg"));
        given(x, "said once more", x.word(0, 2), 3);
        given(x, "say() is heard by none", x.say(0), 4);
        given(x, "say() is known to none", x.knows(0, 0), number("abcdefg"));
        x = with("meaning m;speaker s;speaker t;word a means m;");
        given(x, "the last letter is heard, too", x.tell(0, 0, 2), 2);
        given(x, "GONE", x.word(0, 0), 0);
        given(x, "known as it was", x.knows(1, 0), 1);
        x = with("meaning m;speaker s;speaker t;word ab means m;", "if size>0 drop none;");
        given(x, "none is lost", x.tell(0, 0, 2), 2);
        given(x, "nor learned", x.knows(1, 0), number("ab"));
    }

    private static void hearers() {
        promise = "29: the set of some others (1 for SPEAKER 0 ..; 1: to itself, too)";
        String names = "speaker a;speaker b;speaker c;speaker d;";
        for (int speakers = 1; speakers <= 4; speakers++) {
            String text = "meaning m;" + names.substring(0, 10 * speakers) + "word abcd means m;";
            for (int speaker = -1; speaker <= speakers; speaker++) {
                for (int set = -1; set <= 1 << speakers; set++) {
                    boolean is = speaker >= 0 && speaker < speakers && set >= 0 && set < 1 << speakers && (set >> speaker & 1) == 0;
                    WornWords x = with(text);
                    String call = "tell(" + speaker + ", 0, " + set + ") of " + speakers;
                    if (is) {
                        given(x, call, x.tell(speaker, 0, set), set);
                    } else {
                        refused(x, call, x.tell(speaker, 0, set), 1);
                    }
                    given(x, "said", x.word(0, 2), is ? 1 : 0);
                }
            }
        }
        WornWords x = with("meaning m;word ab means m;");
        refused(x, "no SPEAKERS", x.tell(0, 0, 0), 1);
        refused(x, "no SPEAKERS", x.follows(0, 0), 1);
        refused(x, "no SPEAKERS", x.knows(0, 0), 1);
    }

    // ------------------------------------------------------------------ DAYS and winters

    private static void passing() {
        promise = "32: so many DAYS go by (1 to 99); 999 at most";
        for (int days : new int[] {1, 2, 98, 99}) {
            WornWords x = new WornWords();
            given(x, "pass(" + days + ")", x.pass(days), days);
            given(x, "told(4)", x.told(4), days);
        }
        for (int days : new int[] {1, 50, 99}) {
            WornWords x = onDay(new WornWords(), 999 - days);
            given(x, "to 999 by " + days, x.pass(days), 999);
            refused(x, "pass(1)", x.pass(1), 4);
            refused(x, "pass(99)", x.pass(99), 4);
            refused(x, "pass(100)", x.pass(100), 1);
            given(x, "told(4)", x.told(4), 999);
            if (days < 99) {
                x = onDay(new WornWords(), 999 - days);
                refused(x, "to 1000 by " + (days + 1), x.pass(days + 1), 4);
                given(x, "told(4)", x.told(4), 999 - days);
            }
        }
        WornWords x = onDay(with("meaning m;word abc means m;"), 999);
        given(x, "said on DAY 999", x.say(0), 2);
        given(x, "latest", x.word(0, 3), 999);
        given(x, "a new VILLAGE's DAY", village(x, "meaning m;") + x.told(4), 0);
        given(x, "pass(1)", x.pass(1), 1);
    }

    private static void winters() {
        promise = "27, 33: was not said since the winter ahead (or the beginning), and lost letters";
        WornWords x = with("meaning m;word abcd means m;word xyz means m;word q means m;");
        given(x, "no one lost any", x.wintry(), 0);
        given(x, "winter", x.winter(), 0);
        x.say(0);
        x.say(0);
        x.say(1);
        x.say(2);
        given(x, "all were said", x.wintry(), 0);
        given(x, "winter", x.winter(), 0);
        given(x, "none was said since", x.wintry(), 3);
        given(x, "wintry only asks", x.wintry(), 3);
        x.say(1);
        given(x, "one was said since", x.wintry(), 1);
        given(x, "winter", x.winter(), 1);
        isForm(x, 0, "abc");
        isForm(x, 1, "x");
        given(x, "winter", x.winter(), 2);
        isForm(x, 0, "abcd");
        isForm(x, 1, "xy");
        given(x, "winter", x.winter(), 1);
        isForm(x, 1, "xyz");
        given(x, "all came back", x.winter(), 0);
        given(x, "no more than it had", x.word(0, 0), 4);
        given(x, "GONE stays GONE", x.form(2), 0);
        given(x, "sayings stay", x.word(0, 2), 2);
        x = with("meaning m;word abcd means m;", "if said>0 drop none;");
        x.say(0);
        x.winter();
        x.say(0);
        given(x, "a saying that loses none is a saying, too", x.wintry(), 0);
        x = with("meaning m;speaker s;word abcdefgh means m;");
        x.say(0);
        x.winter();
        x.tell(0, 0, 0);
        given(x, "a telling is a saying, too", x.wintry(), 0);
        x.winter();
        given(x, "cut of it", x.cut(0, 1, 0, 1, 0), 1);
        given(x, "both are said by a CUT", x.wintry(), 0);
        x = with("meaning m;word abcd means m;");
        x.pass(9);
        x.say(0);
        x.pass(90);
        given(x, "days are no winter", x.wintry(), 0);
        given(x, "none gets a letter", x.winter(), 0);
        given(x, "on the same DAY", x.winter(), 1);
        winterLeaves();
    }

    private static void winterLeaves() {
        promise = "33: WINTER gives letters back, and changes no more of a word";
        WornWords x = with("meaning m;meaning n;speaker s;speaker t;word abcd means n;word xyz means m n;");
        x.pass(4);
        x.tell(0, 0, 2);
        x.say(0);
        x.pass(3);
        x.tell(1, 1, 0);
        x.winter();
        x.pass(2);
        given(x, "winter", x.winter(), 2);
        long[][] due = {{3, 2, 2, 4, 1, 4, number("abcd"), number("abcd")}, {3, 3, 1, 7, 0, 3, number("xyz"), number("xyz")}};
        for (int word = 0; word < 2; word++) {
            for (int what = 0; what < 6; what++) {
                given(x, "word(" + word + ", " + what + ")", x.word(word, what), due[word][what]);
            }
            given(x, "knows(0, " + word + ")", x.knows(0, word), due[word][6]);
            given(x, "knows(1, " + word + ")", x.knows(1, word), due[word][7]);
        }
        given(x, "DAY", x.told(4), 9);
        law(x, "if idle=2 drop first;if idle=5 drop middle;");
        given(x, "idle since it was said, not since the winter", x.loses(0), 1);
        given(x, "idle since it was said, not since the winter", x.loses(1), 0);
    }

    private static void wintersOneBehindTheOther() {
        promise = "33: gets back the one lost latest, at its place";
        WornWords x = with("meaning m;word abcdefgh means m;",
                "if said=0 drop middle;if said=1 drop first;if said=2 drop last;if said=3 drop vowel;if said=4 drop middle;if said<7 drop last;");
        String[] forms = {"abcdefgh", "abcdfgh", "bcdfgh", "bcdfg", "bcdf", "bcf", "bc", "b"};
        for (int k = 1; k < forms.length; k++) {
            given(x, "say", x.say(0), 8 - k);
            isForm(x, 0, forms[k]);
            given(x, "lost", x.word(0, 4), k);
        }
        given(x, "said since", x.winter(), 0);
        for (int k = forms.length - 2; k >= 0; k--) {
            given(x, "wintry", x.wintry(), 1);
            given(x, "winter", x.winter(), 1);
            isForm(x, 0, forms[k]);
            given(x, "lost", x.word(0, 4), k);
        }
        given(x, "winter", x.winter(), 0);
        x = with("meaning m;word zzzzzzzz means m;", "if size>0 drop middle;");
        said(x, 0, 7);
        isForm(x, 0, "z");
        x.winter();
        for (int k = 2; k <= 8; k++) {
            given(x, "winter", x.winter(), 1);
            isForm(x, 0, "zzzzzzzz".substring(0, k));
        }
    }

    private static void wintersAlike() {
        promise = "27, 33: not if it would be alike to another one (by numbers, one behind the other, as they are then)";
        // Words 0 and 1 are "b" and "ab" by then; 0 gets back its a only when 1 is no more "ab".
        WornWords x = with("meaning m;word ab means m;word abc means m;", "if said=0 and size=2 drop first;");
        x.say(0);
        x.say(1);
        isForm(x, 0, "b");
        isForm(x, 1, "ab");
        x.winter();
        given(x, "the second alone", x.wintry(), 2);
        given(x, "winter", x.winter(), 1);
        isForm(x, 0, "b");
        isForm(x, 1, "abc");
        given(x, "what it did not get can come back later", x.word(0, 4), 1);
        given(x, "then the first", x.wintry(), 1);
        given(x, "winter", x.winter(), 1);
        isForm(x, 0, "ab");
        // The other way about: the first gets its letter, and the second may then get what the first was.
        x = with("meaning m;word abc means m;word ab means m;", "if said=0 and size=2 drop first;");
        x.say(1);
        x.say(0);
        isForm(x, 0, "ab");
        isForm(x, 1, "b");
        x.winter();
        given(x, "both", x.wintry(), 3);
        given(x, "winter", x.winter(), 2);
        isForm(x, 0, "abc");
        isForm(x, 1, "ab");
        x = with("meaning m;word ab means m;word a means m;", "if said=0 drop first;");
        x.say(0);
        isForm(x, 0, "b");
        x.say(1);
        x.winter();
        given(x, "to be alike to one that is GONE is well", x.winter(), 1);
        isForm(x, 0, "ab");
        // What word 0 was at first is CUT anew while it is "b".
        x = with("meaning m;word ab means m;word azb means m;", "if said=0 and size=2 drop first;if said>0 drop none;");
        x.say(0);
        given(x, "cut", x.cut(1, 1, 1, 1, 0), 2);
        isForm(x, 2, "ab");
        x.winter();
        given(x, "alike to a word that was CUT", x.wintry(), 2);
    }

    private static void wordAnswers() {
        promise = "13 to 16: told, form, word, words";
        WornWords x = with("meaning k;meaning l;speaker s;word abc means k;word abcd means l;word z means k l;", "if size>0 drop last;");
        long[] told = {2, 3, 1, 1, 0, 3};
        for (int what = 0; what < 6; what++) {
            given(x, "told(" + what + ")", x.told(what), told[what]);
        }
        x.pass(2);
        given(x, "cut", x.cut(0, 1, 2, 1, 1), 3);
        isForm(x, 3, "az");
        given(x, "words there are", x.told(1), 4);
        given(x, "not GONE: z was said", x.told(5), 3);
        given(x, "DAY", x.told(4), 2);
        given(x, "words(0)", x.words(0), 1);
        given(x, "words(1)", x.words(1), 2 + 8);
        given(x, "never said", x.word(3, 2), 0);
        refused(x, "never said", x.word(3, 3), 6);
        given(x, "said on DAY 2", x.word(2, 3), 2);
        given(x, "letters of one that was CUT at first", x.word(3, 5), 2);
        given(x, "cut", x.cut(3, 2, 3, 2, 0), 2);
        given(x, "the number of one that is GONE: said", x.word(2, 2), 0);
        refused(x, "the number of one that is GONE: latest", x.word(2, 3), 6);
        given(x, "the number of one that is GONE: lost", x.word(2, 4), 0);
        given(x, "the number of one that is GONE: at first", x.word(2, 5), 4);
        given(x, "MEANINGS", x.word(2, 1), 1);
        x = with("meaning k;word abc means k;");
        x.say(0);
        given(x, "on DAY 0, which is not never", x.word(0, 3), 0);
    }

    private static void sets() {
        promise = "23, 24: LONE, MUTE: the sets of MEANINGS that one word alone, that none has (GONE ones have none)";
        WornWords x = with("meaning k;meaning l;meaning m;word a means k l;word bc means l;");
        given(x, "lone", x.lone(), 1);
        given(x, "mute", x.mute(), 4);
        x.say(1);
        given(x, "lone", x.lone(), 1);
        x.say(1);
        given(x, "lone", x.lone(), 3);
        given(x, "mute", x.mute(), 4);
        x.say(0);
        given(x, "lone", x.lone(), 0);
        given(x, "mute", x.mute(), 7);
        x = with(twelve("meaning m", ""));
        given(x, "lone of no words", x.lone(), 0);
        given(x, "mute of no words", x.mute(), 4095);
        x = with(twelve("meaning m", "") + "word a means ma ml;word b means mb ml;");
        given(x, "lone", x.lone(), 3);
        given(x, "mute", x.mute(), 4095 - 3 - 2048);
        x = with("meaning k;word ab means k;word abc means k;");
        given(x, "two have it", x.lone(), 0);
        x.say(1);
        given(x, "two have become one", x.lone(), 1);
    }

    private static void common() {
        promise = "21: COMMON of two words: the most letters that both FORMS have in one order (others may stand between)";
        String[][] rows = {
            {"a", "b", "0"}, {"a", "aa", "1"}, {"abcdefgh", "hgfedcba", "1"}, {"abcdefgh", "acegbdfh", "5"}, {"abcdefgh", "bdfh", "4"},
            {"aaaaaaaa", "aaaa", "4"}, {"abab", "baba", "3"}, {"axbxcxdx", "yaybycyd", "4"}, {"abcdefgh", "abcdefg", "7"}, {"xa", "ax", "1"},
            {"abcbdab", "bdcaba", "4"}, {"stone", "tone", "4"}, {"h", "abcdefgh", "1"}, {"zzzzzzza", "azzzzzzz", "7"}, {"abcdefgh", "hgfedcbz", "1"},
        };
        for (String[] row : rows) {
            WornWords x = with("meaning m;word " + row[0] + " means m;word " + row[1] + " means m;");
            given(x, "common of " + row[0] + ", " + row[1], x.common(0, 1), Integer.parseInt(row[2]));
            given(x, "common of " + row[1] + ", " + row[0], x.common(1, 0), Integer.parseInt(row[2]));
            given(x, "common of " + row[0] + " and itself", x.common(0, 0), row[0].length());
            given(x, "common of " + row[1] + " and itself", x.common(1, 1), row[1].length());
            given(x, "again, of " + row[0] + ", " + row[1], x.common(0, 1), Integer.parseInt(row[2]));
        }
        WornWords x = with("meaning m;word abcd means m;word xd means m;");
        given(x, "ahead of a saying", x.common(0, 1), 1);
        x.say(0);
        given(x, "as it is now", x.common(0, 1), 0);
    }

    private static void rhymes() {
        promise = "22: the set of other words, not GONE, whose FORMS end on the same n letters; for 1 to 8 letters; 7: it has fewer";
        WornWords x = with("meaning m;word abcdefgh means m;word bcdefgh means m;word h means m;word xxxxxxgh means m;word hg means m;word gh means m;");
        int[] due = {0, 2 + 4 + 8 + 32, 2 + 8 + 32, 2, 2, 2, 2, 2, 0};
        for (int n = 1; n <= 8; n++) {
            given(x, "rhymes(0, " + n + ")", x.rhymes(0, n), due[n]);
        }
        refused(x, "rhymes(0, 0)", x.rhymes(0, 0), 1);
        refused(x, "rhymes(0, 9)", x.rhymes(0, 9), 1);
        given(x, "all its letters", x.rhymes(1, 7), 1);
        refused(x, "one more than it has", x.rhymes(1, 8), 7);
        given(x, "one letter", x.rhymes(2, 1), 1 + 2 + 8 + 32);
        refused(x, "one more than it has", x.rhymes(2, 2), 7);
        given(x, "no one", x.rhymes(4, 1), 0);
        given(x, "of two the whole", x.rhymes(5, 2), 1 + 2 + 8);
        refused(x, "one more than it has", x.rhymes(5, 3), 7);
        x.say(2);
        given(x, "not GONE ones", x.rhymes(5, 1), 1 + 2 + 8);
        refused(x, "of a GONE one", x.rhymes(2, 1), 6);
    }

    private static void lasting() {
        promise = "25: how often it can be said today, each time by its CHEAP word, till no word has it (200 at most)";
        String text = "meaning m;meaning n;word a means m;word b means m;";
        WornWords x = with(text, "if begins a and said<99 drop none;if begins b and said<98 drop none;");
        given(x, "100 and 99", x.lasts(0), 199);
        law(x, "if said<99 drop none;");
        given(x, "100 and 100", x.lasts(0), 200);
        x = with("meaning m;word ab means m;word b means m;", "if said<99 drop none;");
        given(x, "101 and 100", x.lasts(0), 200);
        law(x, "if size>0 drop none;");
        given(x, "for ever", x.lasts(0), 200);
        x = with(text);
        given(x, "one letter each", x.lasts(0), 2);
        given(x, "no word has it", x.lasts(1), 0);
        x.say(0);
        given(x, "one is left", x.lasts(0), 1);
        x.say(1);
        given(x, "none is left", x.lasts(0), 0);
        x = with("meaning m;word abc means m;word ab means m;");
        given(x, "ONE of two on its way", x.lasts(0), 3);
        x = with("meaning m;meaning n;word abc means m;word ab means n;", "if shared drop first;");
        given(x, "with the MEANINGS of both", x.lasts(1), 2);
        given(x, "said as often as both", x.lasts(0), 3);
        x = with("meaning m;word abcd means m;word abcx means m;");
        given(x, "by its CHEAP word each time, not one till it is GONE", x.lasts(0), 5);
        x = with("meaning m;word abc means m;word xyzbc means m;", "if size>0 drop first;");
        given(x, "the longest one first, of several the first", x.lasts(0), 6);
        x = with("meaning m;word abcd means m;word xy means m;", "if idle>0 drop none;");
        x.pass(5);
        given(x, "today: idle no more behind the first saying", x.lasts(0), 8);
        given(x, "nothing is said", x.word(0, 2), 0);
    }

    private static void spreads() {
        promise = "26: by how many unlike FORMS SPEAKERS know it";
        WornWords x = with("meaning m;speaker a;speaker b;speaker c;speaker d;word abcdefgh means m;word z means m;");
        given(x, "one FORM", x.spread(0), 1);
        x.say(0);
        x.tell(0, 0, 0);
        given(x, "two", x.spread(0), 2);
        x.tell(1, 0, 0);
        given(x, "three", x.spread(0), 3);
        x.tell(3, 0, 0);
        given(x, "four", x.spread(0), 4);
        given(x, "another word", x.spread(1), 1);
        x.tell(3, 0, 1);
        given(x, "the first and the last alike", x.spread(0), 3);
        x.tell(2, 0, 1 + 2 + 8);
        given(x, "all alike", x.spread(0), 1);
        x.say(1);
        given(x, "of a GONE one", x.spread(1), 1);
        given(x, "without SPEAKERS", with("meaning m;word a means m;").spread(0), 0);
        given(x, "one SPEAKER", with("meaning m;speaker s;word a means m;").spread(0), 1);
    }

    // ------------------------------------------------------------------ CHAINS

    private static void chains() {
        promise = "18: the FORM behind k sayings (0 to 39; 0: GONE)";
        for (int size = 1; size <= 8; size++) {
            String word = "abcdefgh".substring(0, size);
            WornWords x = with("meaning m;word " + word + " means m;");
            for (int k = 0; k <= 39; k++) {
                given(x, "chain(0, " + k + ")", x.chain(0, k), k < size ? number(word.substring(0, size - k)) : 0);
            }
            refused(x, "chain(0, 40)", x.chain(0, 40), 1);
            refused(x, "chain(0, -1)", x.chain(0, -1), 1);
            given(x, "life", x.life(0), size);
        }
        WornWords x = with("meaning m;word ab means m;", "if said<38 drop none;");
        given(x, "behind 38", x.chain(0, 38), number("ab"));
        given(x, "behind 39", x.chain(0, 39), number("a"));
        x = with("meaning m;word ab means m;word a means m;");
        given(x, "being alike to others is not asked", x.chain(0, 1), 1);
        given(x, "nor what would come of it", x.chain(0, 2), 0);
        given(x, "life", x.life(0), 2);
    }

    private static void lives() {
        promise = "19: LIFE; 7: 40 sayings are not enough";
        for (int none : new int[] {0, 1, 37, 38, 39, 40, 41, 90}) {
            WornWords x = with("meaning m;word a means m;", "if said<" + none + " drop none;");
            if (none < 40) {
                given(x, "life of " + (none + 1), x.life(0), none + 1);
            } else {
                refused(x, "life of " + (none + 1), x.life(0), 7);
            }
            x.say(0);
            if (none > 0 && none < 41) {
                given(x, "one was said", x.life(0), none);
            }
        }
        WornWords x = with("meaning m;word abcdefgh means m;", "if said<32 drop none;");
        given(x, "8 letters", x.life(0), 40);
        law(x, "if said<33 drop none;");
        refused(x, "one more", x.life(0), 7);
    }

    private static void twins() {
        promise = "20: the word that it will be alike to first on its CHAIN, and behind how many sayings; none within 40";
        for (int none : new int[] {0, 1, 37, 38, 39, 40, 90}) {
            WornWords x = with("meaning m;word ab means m;word q means m;word a means m;", "if said<" + none + " drop none;");
            if (none < 40) {
                given(x, "which", x.twin(0, 0), 2);
                given(x, "behind " + (none + 1), x.twin(0, 1), none + 1);
            } else {
                refused(x, "which", x.twin(0, 0), 6);
                refused(x, "behind " + (none + 1), x.twin(0, 1), 6);
            }
        }
        WornWords x = with("meaning m;word ab means m;word abc means m;word a means m;word abcd means m;");
        given(x, "the first of several", x.twin(3, 0), 1);
        given(x, "behind one", x.twin(3, 1), 1);
        given(x, "the first of several", x.twin(1, 0), 0);
        given(x, "the last letter", x.twin(0, 0), 2);
        refused(x, "none", x.twin(2, 0), 6);
        x.say(2);
        refused(x, "not one that is GONE", x.twin(0, 0), 6);
        x.say(1);
        given(x, "as others are now: ab and abc are ONE", x.twin(3, 0), 0);
        given(x, "behind two", x.twin(3, 1), 2);
        x = with("meaning m;word b means m;word ab means m;", "if size=2 drop first;");
        given(x, "of a lesser number", x.twin(1, 0), 0);
        x = with("meaning m;word a means m;word b means m;");
        refused(x, "GONE is alike to none", x.twin(0, 0), 6);
        x = with("meaning m;word ab means m;word a means m;", "if idle=3 drop none;if said=1 drop none;");
        x.pass(3);
        given(x, "as many days ago as it is: none lost by the first saying, nor by the second", x.twin(0, 1), 3);
        x.say(0);
        given(x, "said once: none lost by the first", x.twin(0, 1), 2);
        x.pass(3);
        x.say(0);
        x.pass(1);
        given(x, "said twice, a day ago: the first loses one", x.twin(0, 1), 1);
        given(x, "which", x.twin(0, 0), 1);
    }

    private static void chainsToday() {
        promise = "18 to 20: said again and again today (as it is: its sayings, its MEANINGS, its days)";
        WornWords x = with("meaning m;meaning n;word abcdef means m n;word bcd means m;",
                "if idle=3 drop none;if said=2 drop first;if day=5 and shared drop last;");
        x.pass(5);
        given(x, "chain(0, 1)", x.chain(0, 1), number("abcde"));
        given(x, "chain(0, 2)", x.chain(0, 2), number("abcd"));
        given(x, "chain(0, 3)", x.chain(0, 3), number("bcd"));
        given(x, "twin", x.twin(0, 1), 3);
        given(x, "life", x.life(0), 6);
        x.say(0);
        given(x, "one was said: chain(0, 2)", x.chain(0, 2), number("bcd"));
        x.pass(3);
        given(x, "idle for three days: chain(0, 1)", x.chain(0, 1), number("abcde"));
        given(x, "but then no more: chain(0, 2)", x.chain(0, 2), number("bcde"));
        given(x, "life", x.life(0), 6);
        refused(x, "twin", x.twin(1, 0), 6);
        given(x, "nothing is said", x.word(0, 2), 1);
    }

    // ------------------------------------------------------------------ CUTS

    private static void cutLengths() {
        promise = "34: i, j at least 1, not more than they have, together at most 8";
        for (int i = 0; i <= 8; i++) {
            for (int j = 0; j <= 8; j++) {
                WornWords x = with("meaning m;word abcdefg means m;word tuvwxyz means m;");
                long got = x.cut(0, i, 1, j, 0);
                String call = "cut of " + i + " and " + j;
                if (i < 1 || j < 1) {
                    refused(x, call, got, 1);
                } else if (i > 7 || j > 7 || i + j > 8) {
                    refused(x, call, got, 7);
                } else {
                    given(x, call, got, 2);
                    isForm(x, 2, "abcdefg".substring(0, i) + "tuvwxyz".substring(7 - j));
                    given(x, "letters", x.word(2, 0), i + j);
                    isForm(x, 0, "abcdef");
                    isForm(x, 1, "tuvwxy");
                }
                given(x, "told(1)", x.told(1), got < 0 ? 2 : 3);
                given(x, "said", x.word(0, 2), got < 0 ? 0 : 1);
            }
        }
        promise = "34: not alike to one there is";
        String text = "meaning m;word abx means m;word xcd means m;word acd means m;word ab means m;word ad means m;";
        WornWords x = with(text);
        refused(x, "alike to a third one", x.cut(0, 1, 1, 2, 0), 7);
        refused(x, "alike to the one itself", x.cut(3, 1, 3, 1, 0), 7);
        refused(x, "alike to the other one", x.cut(4, 1, 4, 1, 0), 7);
        given(x, "one that is GONE is not alike", goneThird(x), 2);
        isForm(x, 2, "acd");
    }

    /** Word 2 is said till it is GONE, and is then cut again. */
    private static long goneThird(WornWords x) {
        law(x, "if begins a and size<4 drop first;if begins c drop first;if begins d drop first;");
        said(x, 2, 3);
        due("word 2 is GONE", x.form(2), 0);
        law(x, "if size>0 drop none;");
        return x.cut(0, 1, 1, 2, 0);
    }

    private static void cutNumbers() {
        promise = "34: the first word that is not there (no such number) or GONE, the least number; 4: there are 12 that are not GONE";
        String text = "meaning m;" + twelve("word ", "qqq means m");
        WornWords x = with(text, "if size>3 drop none;");
        refused(x, "twelve", x.cut(0, 1, 1, 1, 0), 4);
        x = with(text.substring(0, text.indexOf("word l")), "if size>3 drop none;");
        given(x, "eleven", x.cut(0, 1, 1, 2, 0), 11);
        given(x, "told(1)", x.told(1), 12);
        refused(x, "twelve then", x.cut(0, 1, 1, 1, 0), 4);
        for (int gone : new int[] {0, 5, 11}) {
            x = with(text);
            said(x, gone, 4);
            int other = gone == 5 ? 6 : 5;
            given(x, "the one that is GONE", x.cut(other, 2, other, 3, 0), gone);
            given(x, "told(1)", x.told(1), 12);
            given(x, "told(5)", x.told(5), 12);
        }
        x = with(text);
        said(x, 3, 4);
        said(x, 9, 4);
        given(x, "the least of two", x.cut(0, 2, 0, 3, 0), 3);
        given(x, "the other one", x.cut(1, 2, 1, 3, 0), 9);
        x = with("meaning m;word abc means m;word d means m;");
        x.say(1);
        given(x, "GONE ahead of not there", x.cut(0, 2, 0, 2, 0), 1);
        given(x, "not there", x.cut(1, 1, 1, 2, 0), 2);
        promise = "34: all SPEAKERS know the new one as it is; never said";
        x = with("meaning m;meaning n;speaker s;speaker t;word d means m;word abc means m;");
        onDay(x, 4);
        x.tell(0, 0, 2);
        given(x, "the number of one that was known", x.cut(1, 2, 1, 2, 1), 0);
        for (int speaker = 0; speaker < 2; speaker++) {
            given(x, "knows", x.knows(speaker, 0), number("abbc"));
        }
        long[] due = {4, 2, 0, -1, 0, 4};
        for (int what = 0; what < 6; what++) {
            due("word(0, " + what + ")", x.word(0, what), due[what]);
        }
    }

    private static void cutSayings() {
        promise = "34: both are said then, the one, then the other one (one that is GONE, or another word by then, is not; by the LAW)";
        WornWords x = with("meaning m;word abc means m;word xyz means m;", "if begins x drop none;if begins a drop first;");
        onDay(x, 6);
        given(x, "cut", x.cut(0, 1, 1, 1, 0), 2);
        isForm(x, 0, "bc");
        isForm(x, 1, "xyz");
        isForm(x, 2, "az");
        given(x, "said", x.word(0, 2) * 100 + x.word(1, 2) * 10 + x.word(2, 2), 110);
        given(x, "latest", x.word(0, 3) * 10 + x.word(1, 3), 66);
        x = with("meaning m;word abc means m;");
        given(x, "one and the same is said twice", x.cut(0, 3, 0, 3, 0), 1);
        given(x, "said", x.word(0, 2), 2);
        isForm(x, 0, "a");
        x = with("meaning m;word a means m;word bc means m;");
        given(x, "the one is GONE by its saying", x.cut(0, 1, 1, 1, 0), 2);
        given(x, "the other one is said all the same", x.word(1, 2), 1);
        x = with("meaning m;word a means m;");
        given(x, "one and the same, GONE by the first saying", x.cut(0, 1, 0, 1, 0), 1);
        given(x, "is not said twice", x.word(0, 2), 1);
        x = with("meaning m;word abcd means m;word abc means m;");
        given(x, "the one becomes the other one, which is GONE", x.cut(0, 1, 1, 1, 0), 2);
        given(x, "said as often as both", x.word(0, 2), 1);
        given(x, "which is not said", x.word(1, 2), 0);
        isForm(x, 0, "abc");
        // The new word counts already when the two are said.
        x = with("meaning m;meaning n;word abb means m;");
        given(x, "the one becomes the new one", x.cut(0, 1, 0, 1, 1), 1);
        given(x, "ONE by the first saying", x.told(5), 1);
        given(x, "MEANINGS of both", x.word(0, 1), 3);
        given(x, "said twice: it is the lesser one", x.word(0, 2), 2);
        isForm(x, 0, "a");
    }

    private static void best(WornWords x, int a, int b, int i, int j, int life) {
        given(x, "bestCut i", x.bestCut(a, b, 0), i);
        given(x, "bestCut j", x.bestCut(a, b, 1), j);
        given(x, "bestCut LIFE", x.bestCut(a, b, 2), life);
    }

    private static void bestCuts() {
        promise = "35: of all CUTS of two words the one with the longest LIFE, of several the first by i, then j";
        best(with("meaning m;word abcdefgh means m;word ijklmnop means m;"), 0, 1, 1, 7, 8);
        best(with("meaning m;word abcdefgh means m;word ijk means m;"), 0, 1, 5, 3, 8);
        best(with("meaning m;word abcdefgh means m;word i means m;"), 0, 1, 7, 1, 8);
        best(with("meaning m;word a means m;word ijklmnop means m;"), 0, 1, 1, 7, 8);
        best(with("meaning m;word a means m;word b means m;"), 0, 1, 1, 1, 2);
        best(with("meaning m;word a means m;word b means m;"), 0, 0, 1, 1, 2);
        best(with("meaning m;word ab means m;word cd means m;"), 1, 0, 2, 2, 4);
        best(with("meaning m;word abcdefgh means m;word ijklmnop means m;word ajklmnop means m;"), 0, 1, 2, 6, 8);
        best(with("meaning m;word ab means m;word cd means m;word abcd means m;"), 0, 1, 1, 2, 3);
        best(with("meaning m;word ab means m;word cd means m;word abcd means m;word acd means m;"), 0, 1, 2, 1, 3);
        WornWords x = with("meaning m;word a means m;word b means m;word ab means m;");
        refused(x, "there is none", x.bestCut(0, 1, 0), 7);
        best(x, 1, 0, 1, 1, 2);
        best(x, 2, 2, 2, 2, 4);
        said(x, 2, 1);
        given(x, "ab and a are ONE", x.told(5), 2);
        best(x, 0, 1, 1, 1, 2);
        given(x, "nothing is said", x.word(0, 2) + x.word(1, 2), 1);
        x = with("meaning m;" + twelve("word ", "q means m").replace("word lq means m;", ""));
        best(x, 0, 1, 2, 2, 4);
    }

    private static void bestCutLives() {
        promise = "35: said never, not shared; those of 40 and more are alike long; LIFE (40: not enough)";
        for (int none : new int[] {31, 32, 33, 37, 38, 39, 60}) {
            WornWords x = with("meaning m;word abcdefgh means m;word ijklmnop means m;", "if said<" + none + " drop none;");
            // Of k letters in all the LIFE is none + k: the first that reaches 40, or the longest there is.
            int letters = Math.max(2, Math.min(8, 40 - none));
            best(x, 0, 1, 1, letters - 1, Math.min(40, none + 8));
        }
        WornWords x = with("meaning m;word ab means m;word cd means m;", "if size>0 drop none;");
        best(x, 0, 1, 1, 1, 40);
        x = with("meaning m;meaning n;word ab means m n;word cd means m n;", "if shared drop none;");
        x.say(0);
        best(x, 0, 1, 2, 2, 4);
        law(x, "if said>0 drop none;");
        best(x, 0, 1, 1, 1, 40);
        law(x, "if said=0 drop none;");
        best(x, 0, 1, 2, 2, 5);
        law(x, "if idle=0 drop none;");
        best(x, 0, 1, 1, 1, 40);
        x.pass(3);
        law(x, "if idle=3 and day=3 drop none;");
        best(x, 0, 1, 2, 2, 5);
    }

    // ------------------------------------------------------------------ MARKS

    private static void marks() {
        promise = "46, 47: MARKS, at most 3; all is taken back to the latest MARK, which is gone then";
        WornWords x = with("meaning m;speaker s;speaker t;word abcdefgh means m;word xyz means m;", "if size>0 drop first;");
        for (int k = 1; k <= 3; k++) {
            given(x, "mark", x.mark(), k);
            x.say(0);
            x.pass(1);
        }
        refused(x, "a fourth", x.mark(), 4);
        given(x, "said", x.word(0, 2), 3);
        for (int k = 2; k >= 0; k--) {
            given(x, "back", x.back(), k);
            given(x, "said", x.word(0, 2), k);
            given(x, "DAY", x.told(4), k);
            given(x, "letters", x.word(0, 0), 8 - k);
        }
        refused(x, "no more", x.back(), 6);
        given(x, "marks again", x.mark(), 1);
        x.tell(0, 0, 2);
        given(x, "a MARK on a MARK", x.mark(), 2);
        given(x, "back", x.back(), 1);
        given(x, "word(0, 2)", x.word(0, 2), 1);
        given(x, "back", x.back(), 0);
        given(x, "word(0, 2)", x.word(0, 2), 0);
        Made all = () -> {
            WornWords y = with("meaning m;meaning n;speaker s;speaker t;soft g;word abcdefgh means m;word xyz means m n;", "if said=1 drop soft;if size>0 drop hard;");
            y.pass(3);
            y.tell(0, 0, 2);
            y.winter();
            y.say(1);
            y.cut(0, 2, 1, 1, 1);
            return y;
        };
        WornWords y = all.make();
        y.mark();
        y.say(0);
        y.tell(1, 2, 1);
        y.pass(50);
        y.winter();
        y.cut(0, 1, 2, 1, 0);
        said(y, 1, 3);
        given(y, "back", y.back(), 0);
        same("back()", everything(y, false), everything(all.make(), false));
        y = all.make();
        y.mark();
        village(y, "meaning q;speaker z;soft h;" + twelve("word q", " means q"));
        law(y, "if size>0 drop none;".repeat(3));
        said(y, 4, 2);
        given(y, "back over another VILLAGE and LAW", y.back(), 0);
        same("back()", everything(y, false), everything(all.make(), false));
        y = new WornWords();
        y.mark();
        village(y, "meaning q;speaker z;word q means q;");
        law(y, "if size>0 drop none;");
        y.pass(4);
        given(y, "back to nothing", y.back(), 0);
        for (int what = 0; what < 6; what++) {
            given(y, "told(" + what + ")", y.told(what), 0);
        }
        promise = "47: TRAYS, the tape, the FRACTION, FAULTS are no part of a MARK";
        y = all.make();
        y.mark();
        row(y, 2, 5, 6);
        feed(y, "meaning a;");
        y.back();
        given(y, "TRAY", y.read(2, 1), 6);
        given(y, "the tape", y.village(10), 0);
        y = with("meaning m;speaker s;speaker t;word abcd means m;");
        y.mark();
        given(y, "odds", y.odds(1, 1, 4));
        village(y, "meaning a;%");
        y.back();
        due("the top told latest", y.top(), 1);
        due("the bottom told latest", y.bottom(), 1);
        due("fault(0) told latest", y.fault(0), 1);
        due("fault(1) told latest", y.fault(1), 10);
    }
}
