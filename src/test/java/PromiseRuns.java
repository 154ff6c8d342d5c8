/**
 * Promise by promise: ordinary inputs, the edges that the document names, and wrong inputs.
 * The answers that are due were worked out by hand from the document.
 */
public final class PromiseRuns extends Checks {
    private static final String SUN = "meaning sun;meaning moon;speaker u;speaker v;soft eao;"
            + "word stone means sun;word ton means moon;word tone means sun moon;";

    public static void main(String[] args) {
        newObject();
        trays();
        pouring();
        tape();
        villageTexts();
        villageFaults();
        lawTexts();
        lawFaults();
        toldOf();
        wordAnswers();
        lettersLost();
        conditions();
        days();
        chains();
        twins();
        commonAndRhymes();
        meaningSets();
        lasting();
        sayings();
        unions();
        tellings();
        passing();
        winters();
        cuts();
        cutSayings();
        bestCuts();
        stories();
        fewestRows();
        unionsInStories();
        manyTexts();
        howFarAndStory();
        readings();
        gossip();
        odds();
        marks();
        nothingElseChanges();
        end("all promises hold");
    }

    private static void newObject() {
        promise = "1 to 4";
        WornWords x = new WornWords();
        due("status()", x.status(), 0);
        due("top()", x.top(), 0);
        due("bottom()", x.bottom(), 1);
        for (int what = 0; what < 6; what++) {
            given(x, "told", x.told(what), 0);
        }
        due("fault(0)", x.fault(0), -1);
        due("fault(1)", x.fault(1), -1);
        for (int tray = 0; tray < 4; tray++) {
            refused(x, "read", x.read(tray, 0), 2);
        }
        refused(x, "village(1) of an empty tape", x.village(1), 1);
        refused(x, "back()", x.back(), 6);
        refused(x, "fewestAt(0)", x.fewestAt(0), 6);
        refused(x, "gossiped(0)", x.gossiped(0), 6);
        due("top, bottom, feed, fault leave the status", x.top() + x.bottom() + x.feed(0, 0, 0, 0, 0) + x.fault(0), 20);
        due("status()", x.status(), 6);
        due("status() itself leaves it", x.status(), 6);
    }

    private static void trays() {
        promise = "5 to 7";
        WornWords x = new WornWords();
        refused(x, "tray -1", x.tray(-1, 0, 1), 1);
        refused(x, "tray 4", x.tray(4, 0, 1), 1);
        refused(x, "sort -1", x.tray(0, -1, 1), 1);
        refused(x, "sort 4", x.tray(0, 4, 1), 1);
        refused(x, "many -1", x.tray(0, 0, -1), 1);
        refused(x, "many 61", x.tray(0, 0, 61), 1);
        refused(x, "a refused tray stays MISSING", x.read(0, 0), 2);
        due("tray of 60", x.tray(3, 0, 60), true);
        given(x, "read(3, 59)", x.read(3, 59), 0);
        refused(x, "read(3, 60)", x.read(3, 60), 3);
        refused(x, "read(3, -1)", x.read(3, -1), 3);
        refused(x, "write(3, 60)", x.write(3, 60, 1), 3);
        refused(x, "write(3, -1)", x.write(3, -1, 1), 3);
        refused(x, "write(2, 0)", x.write(2, 0, 1), 2);
        refused(x, "write(4, 0)", x.write(4, 0, 1), 1);
        refused(x, "read(-1, 0)", x.read(-1, 0), 1);
        long v = 0x1234567890ABCDEFL;
        long[] cut = {(byte) 0xEF, (short) 0xCDEF, (int) 0x90ABCDEFL, v};
        for (int sort = 0; sort < 4; sort++) {
            due("tray(1)", x.tray(1, sort, 1), true);
            given(x, "a new row has 0s", x.read(1, 0), 0);
            due("write", x.write(1, 0, v), true);
            given(x, "read, sort " + sort, x.read(1, 0), cut[sort]);
            due("write", x.write(1, 0, -1), true);
            given(x, "read, sort " + sort, x.read(1, 0), -1);
        }
        due("tray of none", x.tray(1, 2, 0), true);
        refused(x, "it has no place", x.read(1, 0), 3);
    }

    private static void pouring() {
        promise = "8";
        WornWords x = new WornWords();
        row(x, 0, 1, 2, 3, 4, 5);
        row(x, 1, 0, 0, 0);
        due("pour", x.pour(0, 3, 1, 1, 2), true);
        given(x, "read", x.read(1, 0), 0);
        given(x, "read", x.read(1, 1), 4);
        given(x, "read", x.read(1, 2), 5);
        due("pour to its own, up", x.pour(0, 0, 0, 1, 4), true);
        given(x, "read", x.read(0, 0), 1);
        given(x, "read", x.read(0, 1), 1);
        given(x, "read", x.read(0, 4), 4);
        due("pour to its own, down", x.pour(0, 1, 0, 0, 4), true);
        given(x, "read", x.read(0, 3), 4);
        given(x, "read", x.read(0, 0), 1);
        due("pour of none, at the end", x.pour(0, 5, 1, 3, 0), true);
        refused(x, "behind the end", x.pour(0, 6, 1, 3, 0), 3);
        refused(x, "too many", x.pour(0, 4, 1, 0, 2), 3);
        refused(x, "too many at the other", x.pour(0, 0, 1, 2, 2), 3);
        refused(x, "great numbers", x.pour(0, 2147483647, 1, 0, 2147483647), 3);
        refused(x, "below 0", x.pour(0, -1, 1, 0, 1), 1);
        refused(x, "below 0", x.pour(0, 0, 1, -1, 1), 1);
        refused(x, "below 0", x.pour(0, 0, 1, 0, -1), 1);
        refused(x, "no tray", x.pour(4, 0, 1, 0, 1), 1);
        refused(x, "no tray", x.pour(0, 0, -1, 0, 1), 1);
        refused(x, "missing, ahead of the place", x.pour(0, 99, 2, 0, 1), 2);
        refused(x, "missing", x.pour(2, 0, 0, 0, 1), 2);
        x.tray(2, 0, 3);
        refused(x, "unlike, ahead of the place", x.pour(0, 99, 2, 0, 1), 8);
    }

    private static void tape() {
        promise = "9";
        WornWords x = new WornWords();
        for (int k = 1; k <= 45; k++) {
            due("feed", x.feed(0x20202020, 0x20202020, 0x20202020, 0x20202020, 0x20202020), 20 * k);
        }
        due("feed beyond 900", x.feed(0, 0, 0, 0, 0), -1);
        due("status()", x.status(), 0);
        refused(x, "village(901)", x.village(901), 1);
        refused(x, "village(-1)", x.village(-1), 1);
        refused(x, "law(301)", x.law(301), 1);
        refused(x, "law(-1)", x.law(-1), 1);
        given(x, "the tape is still whole", x.village(900), 0);
        due("and empty then", x.feed(0, 0, 0, 0, 0), 20);
        given(x, "village(0)", x.village(0), 0);
        due("empty, what is behind too", x.feed(0, 0, 0, 0, 0), 20);
        given(x, "law(0)", x.law(0), 0);
        due("empty", x.feed(0x6d65616e, 0x696e6720, 0x61623b80, 0xffffffff, 0), 20);
        refused(x, "the highest byte first", x.village(20), 9);
        due("fault(1)", x.fault(1), 11);
        due("with 9 the tape is empty, too", x.feed(0x6d65616e, 0x696e6720, 0x61623b80, 0xffffffff, 0), 20);
        given(x, "village(11)", x.village(11), 0);
        given(x, "told(0)", x.told(0), 1);
    }

    private static void villageTexts() {
        promise = "10";
        WornWords x = new WornWords();
        given(x, "village", village(x, SUN), 3);
        due("fault(0)", x.fault(0), 0);
        due("fault(1)", x.fault(1), -1);
        due("fault(2)", x.fault(2), -1);
        given(x, "words as LETTERS, no blank needed, blanks 10 and 32", village(x, "\n meaning\nab;soft soft ;word word means ab;word none means ab\n;"), 2);
        isForm(x, 0, "word");
        isForm(x, 1, "none");
        given(x, "a NAME of 8 letters", village(x, "meaning abcdefgh;word abcdefgh means abcdefgh;"), 1);
        isForm(x, 0, "abcdefgh");
        given(x, "all twelve, all four", village(x, twelve("meaning m", "") + twelve("word w", " means ma") + "speaker a;speaker b;speaker c;speaker d;"), 12);
        given(x, "told(0)", x.told(0), 12);
        given(x, "told(2)", x.told(2), 4);
        given(x, "all letters soft", village(x, "soft zyxwvutsrqponmlkjihgfedcba;"), 0);
        given(x, "means all twelve", village(x, twelve("meaning m", "") + "word a means ma mb mc md me mf mg mh mi mj mk ml;"), 1);
        given(x, "word(0, 1)", x.word(0, 1), 4095);
        law(x, "if size>0 drop first;");
        x.pass(5);
        x.say(0);
        given(x, "a new village", village(x, SUN), 3);
        given(x, "has no law", x.told(3), 0);
        given(x, "is on day 0", x.told(4), 0);
        given(x, "nothing was said", x.word(0, 2), 0);
        x.pass(3);
        refused(x, "a faulty one", village(x, "word"), 9);
        given(x, "leaves the old one", x.told(4), 3);
        given(x, "leaves the old one", x.told(1), 3);
    }

    private static void faulty(String text, int kind, int place) {
        WornWords x = new WornWords();
        refused(x, "village " + text, village(x, text), 9);
        due("fault(0) of " + text, x.fault(0), kind);
        due("fault(1) of " + text, x.fault(1), place);
        due("fault(-1)", x.fault(-1), -1);
    }

    private static void villageFaults() {
        promise = "10, 12";
        faulty("Meaning", 1, 0);
        faulty("meaning\tx;", 1, 7);
        faulty("meaning x;\r", 1, 10);
        faulty("meaning 12345;", 1, 8);
        faulty("meaning 1234;", 2, 8);
        faulty("meaning x  ", 2, 11);
        faulty("meaning meaning;", 2, 8);
        for (String key : ("meaning word means speaker soft if drop or and not shared begins ends has vowel size said day idle first last hard middle none").split(" ")) {
            faulty("speaker " + key + ";", 2, 8);
        }
        faulty("speaker abcdefghi;", 2, 8);
        faulty("x", 2, 0);
        faulty(";", 2, 0);
        faulty("meaning x;;", 2, 10);
        faulty("meaning x meaning y;", 2, 10);
        faulty("meaning x;word 5 means x;", 2, 15);
        faulty("meaning x;word abcdefghi means x;", 2, 15);
        faulty("meaning x;word abc mean x;", 2, 19);
        faulty("meaning x;word abc means x", 2, 26);
        faulty("meaning x;word abc means x;word abc means x;", 3, 32);
        faulty("word abc means x;meaning x;", 3, 15);
        faulty("speaker x;word abc means x;", 3, 25);
        faulty("meaning x;word abc means x abcdefghi;", 2, 27);
        faulty("meaning x;word abc means x y;", 3, 27);
        faulty("meaning x;word abc means x x;", 5, 27);
        faulty("meaning x;word abc means x means;", 2, 27);
        faulty("speaker x;meaning x;", 3, 18);
        faulty("soft a;soft", 5, 7);
        faulty("soft abcdefghijklmnopqrstuvwxyza;", 5, 5);
        faulty("soft 5;", 2, 5);
        faulty("soft;", 2, 4);
        faulty("meaning;", 2, 7);
        faulty("speaker;", 2, 7);
        faulty("meaning x;word;", 2, 14);
        faulty("meaning x;word a;", 2, 16);
        faulty("meaning x;word a means;", 2, 22);
        faulty("soft a b;", 2, 7);
        faulty(twelve("meaning m", "") + "meaning", 6, 12 * 11);
        faulty("meaning x;" + twelve("word w", " means x") + "word w", 6, 10 + 12 * 16);
        faulty("speaker a;speaker b;speaker c;speaker d;speaker", 6, 40);
        faulty("meaning x;meaning x;%", 3, 18);
        faulty("meaning x%y;", 1, 9);
    }

    private static void lawTexts() {
        promise = "11";
        WornWords x = with(SUN);
        given(x, "no RULE", law(x, "  "), 0);
        given(x, "one", law(x, "if(shared)or not size<05 and begins a drop none;"), 1);
        given(x, "told(3)", x.told(3), 1);
        given(x, "a NUMBER ends where letters begin", law(x, "if size=5drop soft;if has vowel or ends q drop vowel;"), 2);
        given(x, "told(3)", x.told(3), 2);
        StringBuilder b = new StringBuilder();
        for (int k = 0; k < 12; k++) {
            b.append("if day<1 drop hard;");
        }
        given(x, "twelve", law(x, b.toString()), 12);
        refused(x, "a thirteenth", law(x, b + "if"), 9);
        due("fault(0)", x.fault(0), 6);
        due("fault(1)", x.fault(1), 12 * 19);
        given(x, "the old one stays", x.told(3), 12);
        String many = "if day<1" + " or day<1".repeat(23) + " drop last;";
        given(x, "24 asked", law(x, many), 1);
        refused(x, "a 25th", law(x, many + "if shared drop"), 9);
        due("fault(0)", x.fault(0), 6);
        due("fault(1)", x.fault(1), many.length() + 3);
        given(x, "300 bytes", law(x, " ".repeat(300)), 0);
        feed(x, " ".repeat(320));
        refused(x, "law(301)", x.law(301), 1);
        given(x, "the tape stays", x.law(300), 0);
    }

    private static void faultyLaw(String text, int kind, int place) {
        WornWords x = new WornWords();
        refused(x, "law " + text, law(x, text), 9);
        due("fault(0) of " + text, x.fault(0), kind);
        due("fault(1) of " + text, x.fault(1), place);
        given(x, "no RULE of a faulty law", x.told(3), 0);
    }

    private static void lawFaults() {
        promise = "11, 12";
        faultyLaw("drop last;", 2, 0);
        faultyLaw("if", 2, 2);
        faultyLaw("if drop last;", 2, 3);
        faultyLaw("if shared", 2, 9);
        faultyLaw("if shared drop", 2, 14);
        faultyLaw("if shared drop last", 2, 19);
        faultyLaw("if shared drop shared;", 2, 15);
        faultyLaw("if shared shared drop last;", 2, 10);
        faultyLaw("if shared and drop last;", 2, 14);
        faultyLaw("if begins drop last;", 2, 10);
        faultyLaw("if begins 5 drop last;", 2, 10);
        faultyLaw("if has middle drop last;", 2, 7);
        faultyLaw("if size 5 drop last;", 2, 8);
        faultyLaw("if size<a drop last;", 2, 8);
        faultyLaw("if size<100 drop last;", 4, 8);
        faultyLaw("if size<0100 drop last;", 4, 8);
        faultyLaw("if size<00001 drop last;", 1, 8);
        faultyLaw("if size<<1 drop last;", 2, 8);
        faultyLaw("if (shared drop last;", 2, 11);
        faultyLaw("if shared) drop last;", 2, 9);
        faultyLaw("if () drop last;", 2, 4);
        faultyLaw("if shared # drop last;", 1, 10);
        WornWords x = new WornWords();
        given(x, "a ONE within five", law(x, "if not(not(not shared))drop last;"), 1);
        faultyLaw("if not(not(not(shared)))drop last;", 7, 15);
        faultyLaw("if ((((((shared))))))drop last;", 7, 9);
        faultyLaw("if (((((((shared)))))))drop last;", 7, 9);
        faultyLaw("if not not not not not not ;", 2, 27);
        faultyLaw("if not not not not not not", 2, 26);
        faultyLaw("if not not not not not not ?", 1, 27);
        faultyLaw("if not not not not not not begins 5", 7, 27);
        String many = "if day<1" + " or day<1".repeat(23) + " drop last;if (((((";
        faultyLaw(many + "(shared", 6, many.length() + 1);
        faultyLaw(many + "shared", 6, many.length());
        String six = "if day<1" + " or day<1".repeat(23) + " drop last;if ((((((";
        faultyLaw(six + "shared", 6, six.length());
        faultyLaw(six + "(shared", 7, six.length());
    }

    private static void toldOf() {
        promise = "13, 14";
        WornWords x = with(SUN, "if day=0 drop last;");
        long[] due = {2, 3, 2, 1, 0, 3};
        for (int what = 0; what < 6; what++) {
            given(x, "told(" + what + ")", x.told(what), due[what]);
        }
        refused(x, "told(6)", x.told(6), 1);
        refused(x, "told(-1)", x.told(-1), 1);
        given(x, "form(0)", x.form(0), number("stone"));
        refused(x, "form(3)", x.form(3), 1);
        refused(x, "form(-1)", x.form(-1), 1);
        given(x, "say(2)", x.say(2), 0);
        given(x, "form(2) of one that is GONE", x.form(2), 0);
        given(x, "told(1) has GONE ones, too", x.told(1), 3);
        given(x, "told(5) has not", x.told(5), 2);
        given(x, "cut", x.cut(0, 1, 1, 1, 1), 2);
        given(x, "told(1)", x.told(1), 3);
        given(x, "cut", x.cut(0, 2, 1, 2, 1), 3);
        given(x, "told(1)", x.told(1), 4);
    }

    private static void wordAnswers() {
        promise = "15, 16";
        WornWords x = with(SUN);
        x.pass(7);
        given(x, "say(0)", x.say(0), 4);
        x.pass(2);
        given(x, "say(0)", x.say(0), 3);
        long[] due = {3, 1, 2, 9, 2, 5};
        for (int what = 0; what < 6; what++) {
            given(x, "word(0, " + what + ")", x.word(0, what), due[what]);
        }
        refused(x, "never said", x.word(1, 3), 6);
        refused(x, "word(0, 6)", x.word(0, 6), 1);
        refused(x, "word(0, -1)", x.word(0, -1), 1);
        refused(x, "word(3, 0)", x.word(3, 0), 1);
        refused(x, "word(-1, 0)", x.word(-1, 0), 1);
        for (int k = 2; k >= 0; k--) {
            given(x, "say(0)", x.say(0), k);
        }
        long[] gone = {0, 0, 5, 9, 0, 5};
        for (int what = 0; what < 6; what++) {
            given(x, "word(0, " + what + ") when GONE", x.word(0, what), gone[what]);
        }
        given(x, "words(0)", x.words(0), 4);
        given(x, "words(1)", x.words(1), 6);
        refused(x, "words(2)", x.words(2), 1);
        refused(x, "words(-1)", x.words(-1), 1);
    }

    private static void losing(String word, String which, int place, String left) {
        WornWords x = with("meaning m;soft qe;word " + word + " means m;", "if size>0 drop " + which + ";");
        given(x, "loses of " + word + " by " + which, x.loses(0), place);
        given(x, "say", x.say(0), left.length());
        isForm(x, 0, left);
        given(x, "said", x.word(0, 2), 1);
        given(x, "latest", x.word(0, 3), 0);
    }

    private static void lettersLost() {
        promise = "17, 28";
        losing("stone", "first", 0, "tone");
        losing("stone", "last", 4, "ston");
        losing("stone", "soft", 4, "ston");
        losing("eastqee", "soft", 4, "eastee");
        losing("eaaste", "soft", 0, "aaste");
        losing("caab", "soft", 1, "cab");
        losing("stone", "hard", 1, "sone");
        losing("xbxb", "hard", 2, "xbb");
        losing("qeqe", "hard", 3, "qeq");
        losing("stone", "middle", 2, "stne");
        losing("ston", "middle", 2, "stn");
        losing("a", "middle", 0, "");
        losing("stones", "vowel", 4, "stons");
        losing("rhythm", "vowel", 5, "rhyth");
        losing("stone", "none", -1, "stone");
        WornWords x = with(SUN);
        given(x, "loses(0) without a RULE", x.loses(0), 4);
        law(x, "if size>9 drop first;");
        given(x, "loses(0) if no RULE holds", x.loses(0), 4);
        law(x, "if size>9 drop first;if size=5 drop middle;if size>0 drop none;");
        given(x, "loses(0) by the first RULE that holds", x.loses(0), 2);
        given(x, "loses(1)", x.loses(1), -1);
        refused(x, "loses(3)", x.loses(3), 1);
        refused(x, "loses(-1)", x.loses(-1), 1);
        x = with("meaning m;word a means m;");
        given(x, "say(0)", x.say(0), 0);
        refused(x, "loses(0)", x.loses(0), 6);
    }

    /** Whether a condition holds for a word: only then the first letter goes. */
    private static void holds(WornWords x, int word, String condition, boolean want) {
        law(x, "if " + condition + " drop first;");
        due("fault of " + condition, x.fault(0), 0);
        due(condition + " of word " + word, x.loses(word) == 0, want);
    }

    private static void conditions() {
        promise = "11, 17";
        WornWords x = with("meaning m;meaning n;word stone means m;word elm means m n;word tree means n;");
        holds(x, 0, "shared", false);
        holds(x, 1, "shared", true);
        holds(x, 0, "begins s", true);
        holds(x, 0, "begins t", false);
        holds(x, 0, "begins vowel", false);
        holds(x, 1, "begins vowel", true);
        holds(x, 0, "ends e", true);
        holds(x, 0, "ends n", false);
        holds(x, 0, "ends vowel", true);
        holds(x, 1, "ends vowel", false);
        holds(x, 0, "has o", true);
        holds(x, 0, "has a", false);
        holds(x, 0, "has vowel", true);
        holds(x, 0, "size=5", true);
        holds(x, 0, "size<5", false);
        holds(x, 0, "size>5", false);
        holds(x, 0, "size<6", true);
        holds(x, 0, "size>4", true);
        holds(x, 0, "said=0", true);
        holds(x, 0, "day=0", true);
        holds(x, 0, "idle=0", true);
        holds(x, 0, "not shared", true);
        holds(x, 0, "not not shared", false);
        holds(x, 0, "begins s or shared and shared", true);
        holds(x, 0, "(begins s or shared) and shared", false);
        holds(x, 0, "not shared and shared", false);
        holds(x, 0, "not (shared and shared)", true);
        holds(x, 0, "not shared or begins s", true);
        holds(x, 0, "not (shared or begins s)", false);
        holds(x, 0, "shared or shared or begins s", true);
        holds(x, 0, "begins s and ends e and shared", false);
        holds(x, 0, "(begins s and (ends e or shared)) and (has t and (has o and (has n and has e)))", true);
        x = with("meaning m;word rhythm means m;");
        holds(x, 0, "has vowel", false);
    }

    private static void days() {
        promise = "17, 32";
        WornWords x = with("meaning m;word stone means m;word tree means m;");
        x.pass(4);
        x.say(0);
        x.say(0);
        x.pass(3);
        holds(x, 0, "said=2", true);
        holds(x, 0, "day=7", true);
        holds(x, 0, "idle=3", true);
        holds(x, 1, "said=0", true);
        holds(x, 1, "idle=7", true);
        x.pass(92);
        holds(x, 0, "day=99", true);
        holds(x, 0, "idle=95", true);
        holds(x, 1, "idle=99", true);
        x.pass(4);
        holds(x, 0, "idle=99", true);
        x.pass(1);
        holds(x, 0, "idle=99", true);
        holds(x, 1, "idle=99", true);
        holds(x, 0, "day=99", true);
        law(x, "if size>0 drop none;");
        for (int k = 0; k < 98; k++) {
            x.say(1);
        }
        holds(x, 1, "said>97 and said<99", true);
        law(x, "if size>0 drop none;");
        x.say(1);
        x.say(1);
        holds(x, 1, "said>99", true);
        given(x, "said", x.word(1, 2), 100);
    }

    private static void chains() {
        promise = "18, 19";
        WornWords x = with(SUN, "if said=1 drop none;if idle>0 drop first;if shared drop middle;");
        x.pass(1);
        String[] stone = {"stone", "tone", "tone", "ton", "to", "t", ""};
        for (int k = 0; k < stone.length; k++) {
            given(x, "chain(0, " + k + ")", x.chain(0, k), number(stone[k]));
        }
        given(x, "chain(0, 39)", x.chain(0, 39), 0);
        given(x, "life(0)", x.life(0), 6);
        String[] tone = {"tone", "one", "one", "oe", "o", ""};
        for (int k = 0; k < tone.length; k++) {
            given(x, "chain(2, " + k + ")", x.chain(2, k), number(tone[k]));
        }
        given(x, "nothing was said", x.word(0, 2), 0);
        refused(x, "chain(0, 40)", x.chain(0, 40), 1);
        refused(x, "chain(0, -1)", x.chain(0, -1), 1);
        refused(x, "chain(3, 0)", x.chain(3, 0), 1);
        refused(x, "life(3)", x.life(3), 1);
        refused(x, "life(-1)", x.life(-1), 1);
        x = with("meaning m;word a means m;", "if said<38 drop none;");
        given(x, "life of 39", x.life(0), 39);
        given(x, "chain(0, 38)", x.chain(0, 38), 1);
        given(x, "chain(0, 39)", x.chain(0, 39), 0);
        law(x, "if said<39 drop none;");
        given(x, "life of 40", x.life(0), 40);
        law(x, "if said<40 drop none;");
        refused(x, "life of 41", x.life(0), 7);
        x.say(0);
        given(x, "one was said", x.life(0), 40);
        law(x, "");
        x.say(0);
        refused(x, "life of one that is GONE", x.life(0), 6);
        refused(x, "chain of one that is GONE", x.chain(0, 0), 6);
    }

    private static void twins() {
        promise = "20";
        WornWords x = with(SUN);
        given(x, "twin(2, 0)", x.twin(2, 0), 1);
        given(x, "twin(2, 1)", x.twin(2, 1), 1);
        refused(x, "twin(0, 0)", x.twin(0, 0), 6);
        refused(x, "twin(0, 2)", x.twin(0, 2), 1);
        refused(x, "twin(0, -1)", x.twin(0, -1), 1);
        refused(x, "twin(3, 0)", x.twin(3, 0), 1);
        law(x, "if size=5 drop first;");
        given(x, "twin(0, 0)", x.twin(0, 0), 2);
        given(x, "twin(0, 1)", x.twin(0, 1), 1);
        given(x, "say(1)", x.say(1), 2);
        given(x, "twin(2, 1)", x.twin(2, 1), 2);
        given(x, "twin(2, 0)", x.twin(2, 0), 1);
        x.say(1);
        x.say(1);
        refused(x, "a twin is not GONE", x.twin(2, 0), 6);
        refused(x, "twin of one that is GONE", x.twin(1, 0), 6);
        x = with("meaning m;word ab means m;word a means m;", "if said<38 drop none;");
        given(x, "behind 39 sayings", x.twin(0, 1), 39);
        law(x, "if said<39 drop none;");
        given(x, "the one behind 40 sayings", x.twin(0, 0), 1);
        given(x, "behind 40 sayings", x.twin(0, 1), 40);
        law(x, "if said<40 drop none;");
        refused(x, "behind 41 sayings: none within 40", x.twin(0, 0), 6);
        refused(x, "behind 41 sayings: none within 40", x.twin(0, 1), 6);
        x.say(0);
        given(x, "one was said: 40 are left", x.twin(0, 1), 40);
        law(x, "if said<50 drop none;");
        refused(x, "not within 40", x.twin(0, 1), 6);
        x = with("meaning m;word a means m;word b means m;", "if said<39 drop none;");
        refused(x, "GONE behind 40 sayings is alike to none", x.twin(0, 0), 6);
    }

    private static void commonAndRhymes() {
        promise = "21, 22";
        WornWords x = with("meaning m;word abcbdab means m;word bdcaba means m;word xyz means m;word z means m;word xz means m;word az means m;");
        given(x, "common(0, 1)", x.common(0, 1), 4);
        given(x, "common(1, 0)", x.common(1, 0), 4);
        given(x, "common(0, 2)", x.common(0, 2), 0);
        given(x, "common(0, 0)", x.common(0, 0), 7);
        given(x, "common(2, 4)", x.common(2, 4), 2);
        refused(x, "common(0, 6)", x.common(0, 6), 1);
        refused(x, "common(-1, 0)", x.common(-1, 0), 1);
        given(x, "rhymes(2, 1)", x.rhymes(2, 1), 8 + 16 + 32);
        given(x, "rhymes(3, 1)", x.rhymes(3, 1), 4 + 16 + 32);
        given(x, "rhymes(2, 2)", x.rhymes(2, 2), 0);
        refused(x, "rhymes(2, 4)", x.rhymes(2, 4), 7);
        refused(x, "rhymes(2, 0)", x.rhymes(2, 0), 1);
        refused(x, "rhymes(2, 9)", x.rhymes(2, 9), 1);
        refused(x, "rhymes(6, 1)", x.rhymes(6, 1), 1);
        x.say(3);
        given(x, "rhymes without one that is GONE", x.rhymes(2, 1), 16 + 32);
        refused(x, "common with one that is GONE", x.common(0, 3), 6);
        refused(x, "common with one that is GONE", x.common(3, 0), 6);
        refused(x, "rhymes of one that is GONE", x.rhymes(3, 1), 6);
        x = with("meaning m;word abcdefgh means m;word bcdefgh means m;");
        given(x, "eight letters", x.rhymes(0, 8), 0);
        given(x, "seven letters", x.rhymes(0, 7), 2);
    }

    private static void meaningSets() {
        promise = "23, 24";
        WornWords x = with("meaning k;meaning l;meaning m;word a means k l;word b means l;");
        given(x, "lone()", x.lone(), 1);
        given(x, "mute()", x.mute(), 4);
        x.say(0);
        given(x, "lone()", x.lone(), 2);
        given(x, "mute()", x.mute(), 5);
    }

    private static void lasting() {
        promise = "25";
        WornWords x = with(SUN);
        given(x, "lasts(0)", x.lasts(0), 9);
        given(x, "nothing was said", x.word(0, 2), 0);
        given(x, "nothing was lost", x.told(5), 3);
        refused(x, "lasts(2)", x.lasts(2), 1);
        refused(x, "lasts(-1)", x.lasts(-1), 1);
        law(x, "if said=3 drop none;");
        given(x, "the one of two, said as often as both", x.lasts(1), 5);
        law(x, "if said>2 drop none;");
        given(x, "lasts for ever", x.lasts(1), 200);
        x = with("meaning m;meaning n;word ab means m;");
        given(x, "lasts(0)", x.lasts(0), 2);
        given(x, "lasts(1) of none", x.lasts(1), 0);
        law(x, "if day=0 drop none;");
        given(x, "today", x.lasts(0), 200);
    }

    private static void sayings() {
        promise = "28";
        WornWords x = with(SUN);
        x.pass(3);
        given(x, "say(0)", x.say(0), 4);
        isForm(x, 0, "ston");
        given(x, "word(0, 2)", x.word(0, 2), 1);
        given(x, "word(0, 3)", x.word(0, 3), 3);
        refused(x, "say(3)", x.say(3), 1);
        refused(x, "say(-1)", x.say(-1), 1);
        x.say(0);
        x.say(0);
        x.say(0);
        given(x, "the last letter", x.say(0), 0);
        given(x, "told(5)", x.told(5), 2);
        refused(x, "say of one that is GONE", x.say(0), 6);
        given(x, "word(0, 2)", x.word(0, 2), 5);
        law(x, "if size>0 drop none;");
        given(x, "none goes", x.say(1), 3);
        given(x, "but it was said", x.word(1, 2), 1);
        given(x, "and lost none", x.word(1, 4), 0);
    }

    private static void unions() {
        promise = "28";
        WornWords x = with("meaning k;meaning l;meaning m;speaker s;speaker t;word abcd means k;word bcd means l m;word abce means l;");
        x.say(1);
        x.say(1);
        x.pass(2);
        law(x, "if size=4 drop first;");
        given(x, "no union", x.say(2), 3);
        isForm(x, 2, "bce");
        law(x, "if size=4 drop first;if ends e drop none;");
        x = with("meaning k;meaning l;meaning m;speaker s;speaker t;word abcd means k;word bcd means l m;word bcde means l;",
                "if begins a drop first;");
        x.say(0);
        given(x, "the lesser one stays", x.word(0, 0), 3);
        given(x, "with the MEANINGS of both", x.word(0, 1), 7);
        given(x, "the greater one is GONE", x.word(1, 0), 0);
        given(x, "without MEANINGS", x.word(1, 1), 0);
        given(x, "nothing comes back", x.word(0, 4), 0);
        given(x, "said once", x.word(0, 2), 1);
        given(x, "SPEAKERS know what they knew of the one that stays", x.knows(0, 0), number("abcd"));
        given(x, "it had at first", x.word(0, 5), 4);
        x.pass(5);
        given(x, "tell", x.tell(0, 2, 2), 2);
        isForm(x, 0, "bcd");
        given(x, "said as often as both", x.word(0, 2), 2);
        given(x, "latest today", x.word(0, 3), 5);
        given(x, "the said one is GONE", x.word(2, 0), 0);
        given(x, "the said one's sayings", x.word(2, 2), 1);
        given(x, "lost nothing that comes back", x.word(2, 4), 0);
        given(x, "knows(1, 0)", x.knows(1, 0), number("abcd"));
        given(x, "knows(1, 2)", x.knows(1, 2), number("bcde"));
        x.say(0);
        given(x, "what it loses from then on comes back", x.word(0, 4), 1);
        given(x, "told(5)", x.told(5), 1);
    }

    private static void tellings() {
        promise = "26, 29 to 31";
        WornWords x = with("meaning m;speaker a;speaker b;speaker c;speaker d;word abcdefgh means m;word zz means m;", "if size>0 drop first;");
        given(x, "tell to nobody", x.tell(0, 0, 0), 0);
        isForm(x, 0, "bcdefgh");
        given(x, "knows(0, 0)", x.knows(0, 0), number("abcdefgh"));
        given(x, "without one", x.tell(0, 0, 2), 2);
        given(x, "knows(1, 0)", x.knows(1, 0), number("bcdefgh"));
        given(x, "knows(0, 0)", x.knows(0, 0), number("bcdefgh"));
        given(x, "knows(2, 0)", x.knows(2, 0), number("abcdefgh"));
        given(x, "spread(0)", x.spread(0), 2);
        given(x, "without two", x.follows(2, 0), 1);
        x.say(0);
        given(x, "without three", x.follows(2, 0), 0);
        given(x, "without two", x.follows(1, 0), 1);
        given(x, "tell(3, 0, 7)", x.tell(3, 0, 7), 3);
        given(x, "all know it so", x.spread(0), 1);
        given(x, "knows(2, 0)", x.knows(2, 0), number("defgh"));
        given(x, "spread(1)", x.spread(1), 1);
        refused(x, "to itself", x.tell(0, 0, 1), 1);
        refused(x, "to others that are none", x.tell(0, 0, 16), 1);
        refused(x, "below 0", x.tell(0, 0, -2), 1);
        refused(x, "no such speaker", x.tell(4, 0, 1), 1);
        refused(x, "no such speaker", x.tell(-1, 0, 1), 1);
        refused(x, "no such word", x.tell(0, 2, 2), 1);
        refused(x, "follows(4, 0)", x.follows(4, 0), 1);
        refused(x, "follows(0, 2)", x.follows(0, 2), 1);
        refused(x, "knows(4, 0)", x.knows(4, 0), 1);
        refused(x, "knows(0, -1)", x.knows(0, -1), 1);
        refused(x, "spread(2)", x.spread(2), 1);
        x.say(1);
        x.say(1);
        refused(x, "tell of one that is GONE", x.tell(0, 1, 2), 6);
        refused(x, "1 is ahead of 6", x.tell(0, 1, 1), 1);
        refused(x, "follows of one that is GONE", x.follows(0, 1), 6);
        given(x, "knows of one that is GONE", x.knows(0, 1), number("zz"));
        given(x, "spread of one that is GONE", x.spread(1), 1);
        x = with("meaning m;speaker a;speaker b;word abcab means m;", "if said=0 drop middle;if said=1 drop none;");
        x.say(0);
        given(x, "letters from the middle", x.follows(1, 0), 1);
        x.tell(0, 0, 2);
        x.winter();
        x.winter();
        isForm(x, 0, "abcab");
        given(x, "more letters than it knows", x.follows(1, 0), 0);
        unlikeKnown("bacd", "middle", "last", "bad", "bac");
        unlikeKnown("bacd", "first", "middle", "acd", "bad");
        unlikeKnown("bacd", "first", "vowel", "acd", "bcd");
        unlikeKnown("bacd", "last", "first", "bac", "acd");
        x = with("meaning m;word abc means m;");
        given(x, "spread without SPEAKERS", x.spread(0), 0);
    }

    /** A letter goes and comes back, and another one goes: as many letters as are known, but not the same. */
    private static void unlikeKnown(String word, String one, String other, String known, String heard) {
        WornWords x = with("meaning m;speaker a;speaker b;word " + word + " means m;", "if said=0 drop " + one + ";if said=1 drop none;");
        x.say(0);
        given(x, "tell", x.tell(0, 0, 2), 2);
        given(x, "knows", x.knows(1, 0), number(known));
        x.winter();
        x.winter();
        isForm(x, 0, word);
        law(x, "if size=4 drop " + other + ";");
        x.say(0);
        isForm(x, 0, heard);
        given(x, "follows, knowing " + known, x.follows(1, 0), 0);
    }

    private static void passing() {
        promise = "32";
        WornWords x = new WornWords();
        given(x, "pass(1)", x.pass(1), 1);
        given(x, "pass(99)", x.pass(99), 100);
        refused(x, "pass(0)", x.pass(0), 1);
        refused(x, "pass(-1)", x.pass(-1), 1);
        refused(x, "pass(100)", x.pass(100), 1);
        for (int k = 2; k <= 10; k++) {
            given(x, "pass(99)", x.pass(99), 1 + 99 * k);
        }
        refused(x, "pass(9)", x.pass(9), 4);
        refused(x, "1 is ahead of 4", x.pass(100), 1);
        given(x, "pass(8)", x.pass(8), 999);
        refused(x, "pass(1)", x.pass(1), 4);
        given(x, "told(4)", x.told(4), 999);
    }

    private static void winters() {
        promise = "27, 33";
        WornWords x = with("meaning m;word abcde means m;word abc means m;word xyz means m;", "if said=0 drop middle;if said=1 drop first;");
        x.say(0);
        x.say(0);
        x.say(2);
        isForm(x, 0, "bde");
        isForm(x, 2, "xz");
        given(x, "wintry()", x.wintry(), 0);
        given(x, "winter() of what was said since", x.winter(), 0);
        given(x, "wintry()", x.wintry(), 5);
        x.say(2);
        given(x, "wintry()", x.wintry(), 1);
        isForm(x, 0, "bde");
        given(x, "winter()", x.winter(), 1);
        isForm(x, 0, "abde");
        given(x, "word(0, 4)", x.word(0, 4), 1);
        given(x, "winter()", x.winter(), 2);
        isForm(x, 0, "abcde");
        isForm(x, 2, "xz");
        given(x, "word(0, 4)", x.word(0, 4), 0);
        given(x, "winter()", x.winter(), 1);
        isForm(x, 2, "xyz");
        given(x, "winter()", x.winter(), 0);
        given(x, "the DAY stays", x.told(4), 0);
        x = with("meaning m;word ab means m;word abc means m;word q means m;", "if begins q drop last;if said=0 drop last;if said=1 drop none;");
        x.say(0);
        isForm(x, 0, "a");
        x.say(1);
        isForm(x, 1, "ab");
        x.winter();
        given(x, "not what would be alike, but by numbers", x.wintry(), 2);
        given(x, "winter()", x.winter(), 1);
        isForm(x, 0, "a");
        isForm(x, 1, "abc");
        given(x, "then it is not alike", x.wintry(), 1);
        given(x, "winter()", x.winter(), 1);
        isForm(x, 0, "ab");
        x = with("meaning m;word abc means m;word ab means m;", "if size=2 drop last;if size=3 drop first;");
        x.say(1);
        isForm(x, 1, "a");
        x.say(0);
        isForm(x, 0, "bc");
        x = with("meaning m;word xab means m;word ab means m;", "if size=2 drop last;if begins x drop last;");
        x.say(1);
        law(x, "if begins x drop first;");
        x.say(0);
        isForm(x, 0, "ab");
        x.winter();
        given(x, "the first gets free what the second gets", x.wintry(), 3);
        given(x, "winter()", x.winter(), 2);
        isForm(x, 0, "xab");
        isForm(x, 1, "ab");
        x.say(1);
        x.say(1);
        given(x, "one that is GONE gets none", x.winter() + x.winter(), 0);
    }

    private static void cuts() {
        promise = "34";
        WornWords x = with("meaning m;meaning n;speaker s;speaker t;word stone means m;word abcdefgh means n;word z means m;");
        x.pass(4);
        given(x, "cut", x.cut(0, 3, 1, 2, 1), 3);
        isForm(x, 3, "stogh");
        isForm(x, 0, "ston");
        isForm(x, 1, "abcdefg");
        long[] due = {5, 2, 0, -1, 0, 5};
        for (int what = 0; what < 6; what++) {
            due("word(3, " + what + ")", x.word(3, what), due[what]);
        }
        given(x, "knows(1, 3)", x.knows(1, 3), number("stogh"));
        given(x, "latest", x.word(0, 3), 4);
        refused(x, "i more than it has", x.cut(0, 5, 1, 1, 0), 7);
        refused(x, "j more than it has", x.cut(1, 1, 0, 5, 0), 7);
        refused(x, "too long", x.cut(1, 5, 0, 4, 0), 7);
        refused(x, "much too long", x.cut(1, 2147483647, 0, 2147483647, 0), 7);
        given(x, "8 letters", x.cut(1, 4, 0, 4, 0), 4);
        isForm(x, 4, "abcdston");
        refused(x, "i below 1", x.cut(0, 0, 1, 1, 0), 1);
        refused(x, "j below 1", x.cut(0, 1, 1, 0, 0), 1);
        refused(x, "no such meaning", x.cut(0, 1, 1, 1, 2), 1);
        refused(x, "no such meaning", x.cut(0, 1, 1, 1, -1), 1);
        refused(x, "no such word", x.cut(9, 1, 1, 1, 0), 1);
        refused(x, "no such word", x.cut(0, 1, -1, 1, 0), 1);
        x.say(2);
        refused(x, "one that is GONE", x.cut(2, 1, 1, 1, 0), 6);
        refused(x, "one that is GONE", x.cut(1, 1, 2, 1, 0), 6);
        given(x, "the number of one that is GONE", x.cut(0, 1, 0, 1, 0), 2);
        given(x, "never said", x.word(2, 2), 0);
        x = with("meaning m;word ab means m;word b means m;word aab means m;");
        refused(x, "alike to one there is", x.cut(0, 1, 1, 1, 0), 7);
        refused(x, "alike to another one", x.cut(2, 1, 0, 2, 0), 7);
        x = with("meaning m;" + twelve("word w", "q means m"));
        refused(x, "there are 12", x.cut(0, 1, 1, 1, 0), 4);
        refused(x, "1 is ahead of 4", x.cut(0, 0, 1, 1, 0), 1);
        x.say(5);
        x.say(6);
        x.say(5);
        x.say(6);
        given(x, "two became one", x.told(5), 11);
        given(x, "there are 11", x.cut(0, 1, 1, 1, 0), 6);
        isForm(x, 6, "wq");
    }

    private static void cutSayings() {
        promise = "34";
        WornWords x = with("meaning m;word abc means m;");
        given(x, "one and the same is well", x.cut(0, 2, 0, 3, 0), 1);
        isForm(x, 1, "ababc");
        isForm(x, 0, "a");
        given(x, "said twice", x.word(0, 2), 2);
        x = with("meaning m;word a means m;word xyz means m;");
        given(x, "cut", x.cut(0, 1, 0, 1, 0), 2);
        isForm(x, 0, "");
        given(x, "one that is GONE is not said again", x.word(0, 2), 1);
        x = with("meaning m;meaning n;word abcd means m;word abc means n;word q means m;");
        given(x, "the one becomes the other one", x.cut(0, 1, 1, 1, 0), 3);
        isForm(x, 3, "ac");
        isForm(x, 0, "abc");
        isForm(x, 1, "");
        given(x, "which is not said then", x.word(0, 2), 1);
        x = with("meaning m;meaning n;word abc means m;word abcd means n;");
        given(x, "the one becomes the lesser one", x.cut(1, 1, 0, 1, 0), 2);
        isForm(x, 1, "");
        isForm(x, 0, "ab");
        given(x, "which is said then", x.word(0, 2), 2);
        x = with("meaning m;meaning n;word q means m;word abc means m;word bx means n;", "if begins b drop first;");
        x.say(0);
        given(x, "the one becomes the new one", x.cut(1, 1, 1, 1, 1), 0);
        isForm(x, 0, "ac");
        x = with("meaning m;meaning n;speaker s;word q means m;word abb means m;", "if begins q drop first;");
        x.say(0);
        given(x, "ab of abb, which becomes ab", x.cut(1, 1, 1, 1, 1), 0);
        isForm(x, 0, "ab");
        isForm(x, 1, "");
        given(x, "with both MEANINGS", x.word(0, 1), 3);
        given(x, "said as often as both", x.word(0, 2), 1);
        x = with("meaning m;meaning n;word abb means m;");
        given(x, "the new one goes at once, as the greater", x.cut(0, 1, 0, 1, 1), 1);
        given(x, "word(1, 0)", x.word(1, 0), 0);
        given(x, "word(0, 1)", x.word(0, 1), 3);
        isForm(x, 0, "a");
    }

    private static void bestCuts() {
        promise = "35";
        WornWords x = with(SUN);
        given(x, "i", x.bestCut(0, 1, 0), 5);
        given(x, "j", x.bestCut(0, 1, 1), 3);
        given(x, "LIFE", x.bestCut(0, 1, 2), 8);
        given(x, "the first by i", x.bestCut(0, 0, 0), 3);
        given(x, "then j", x.bestCut(0, 0, 1), 5);
        given(x, "nothing is said", x.word(0, 2), 0);
        given(x, "nothing is new", x.told(1), 3);
        refused(x, "what 3", x.bestCut(0, 1, 3), 1);
        refused(x, "what -1", x.bestCut(0, 1, -1), 1);
        refused(x, "no such word", x.bestCut(0, 3, 0), 1);
        law(x, "if said<30 and size=2 drop none;");
        given(x, "LIFE of two letters", x.bestCut(0, 1, 2), 32);
        law(x, "if size=4 and begins s drop none;");
        given(x, "not enough", x.bestCut(0, 1, 2), 40);
        given(x, "the first of those", x.bestCut(0, 1, 0), 1);
        given(x, "the first of those", x.bestCut(0, 1, 1), 3);
        law(x, "if shared or said>0 and size>4 drop none;");
        given(x, "not shared, said never", x.bestCut(2, 2, 2), 40);
        x = with("meaning m;word ab means m;word a means m;word b means m;");
        refused(x, "there is none", x.bestCut(1, 2, 0), 7);
        x.say(1);
        refused(x, "one that is GONE", x.bestCut(1, 2, 0), 6);
        x = with("meaning m;" + twelve("word w", "q means m"));
        refused(x, "there are 12", x.bestCut(0, 1, 0), 4);
        x = with("meaning m;word ab means m;", "if idle=3 drop none;");
        x.pass(3);
        given(x, "idle from DAY 0, said today then", x.bestCut(0, 0, 2), 5);
    }

    private static void wrongRows(String name, WornWords x, java.util.function.IntBinaryOperator call, int most) {
        refused(x, name + ": no tray", call.applyAsInt(4, 1), 1);
        refused(x, name + ": no tray", call.applyAsInt(-1, 1), 1);
        refused(x, name + ": 0", call.applyAsInt(3, 0), 1);
        refused(x, name + ": too many", call.applyAsInt(3, most + 1), 1);
        refused(x, name + ": missing", call.applyAsInt(3, 1), 2);
        x.tray(2, 0, 2);
        x.write(2, 1, -1);
        refused(x, name + ": too few", call.applyAsInt(2, 3), 3);
        refused(x, name + ": a number that can't be", call.applyAsInt(2, 2), 5);
    }

    private static void stories() {
        promise = "36";
        WornWords x = with(SUN);
        wrongRows("ways", x, x::ways, 5);
        wrongRows("fewest", x, x::fewest, 5);
        wrongRows("howFar", x, x::howFar, 5);
        wrongRows("story", x, x::story, 5);
        row(x, 0, 0, 1, 7);
        given(x, "ways", x.ways(0, 2), 3);
        given(x, "ways", x.ways(0, 1), 2);
        refused(x, "no such MEANING", x.ways(0, 3), 5);
        row(x, 0, 4294967296L);
        refused(x, "no such MEANING", x.ways(0, 1), 5);
        x = with("meaning m;meaning n;word a means m;word b means m;word cd means n;");
        row(x, 0, 0, 0, 0);
        given(x, "each once", x.ways(0, 2), 2);
        given(x, "they are gone by then", x.ways(0, 3), 0);
        row(x, 0, 0, 1, 0, 1);
        given(x, "ways", x.ways(0, 4), 2);
        given(x, "nothing is said", x.told(5), 3);
        given(x, "nothing is said", x.word(0, 2), 0);
        x = with("meaning m;" + twelve("word qqqqq", " means m"));
        row(x, 0, 0, 0, 0, 0, 0);
        given(x, "many ways, words becoming one", x.ways(0, 1), 12);
        x = with("meaning m;" + twelve("word ", "qqqqqq means m"));
        row(x, 0, 0, 0, 0, 0, 0);
        given(x, "twelve, five times", x.ways(0, 5), 248832);
        given(x, "nothing is said", x.word(11, 2), 0);
    }

    private static void fewestRows() {
        promise = "37, 38";
        WornWords x = with(SUN);
        row(x, 0, 0, 1);
        given(x, "fewest", x.fewest(0, 2), 2);
        given(x, "the FIRST", x.fewestAt(0), 0);
        given(x, "the FIRST", x.fewestAt(1), 1);
        refused(x, "fewestAt(2)", x.fewestAt(2), 6);
        refused(x, "fewestAt(-1)", x.fewestAt(-1), 6);
        law(x, "if shared drop none;");
        given(x, "fewest", x.fewest(0, 2), 0);
        given(x, "the FIRST", x.fewestAt(0), 2);
        given(x, "the FIRST", x.fewestAt(1), 2);
        refused(x, "a refused one", x.fewest(0, 3), 3);
        given(x, "leaves the row", x.fewestAt(1), 2);
        village(x, "meaning m;meaning n;word a means m;word bc means m;");
        row(x, 1, 0, 1);
        refused(x, "it can't be told", x.fewest(1, 2), 6);
        given(x, "leaves the row", x.fewestAt(1), 2);
        law(x, "if said=1 drop none;if size=1 drop none;");
        row(x, 1, 0, 0, 0);
        given(x, "fewest", x.fewest(1, 3), 0);
        given(x, "the FIRST", x.fewestAt(2), 0);
        law(x, "if begins b and said>0 drop none;if begins a and said=1 drop none;");
        given(x, "fewest", x.fewest(1, 3), 1);
        given(x, "the FIRST", x.fewestAt(0), 1);
        given(x, "the FIRST", x.fewestAt(1), 1);
        given(x, "nothing is said", x.word(1, 2), 0);
    }

    /** Words that become ONE while a STORY is told, and that are two again in the next row of words. */
    private static void unionsInStories() {
        promise = "36, 37, 39";
        WornWords x = with("meaning m;meaning n;word ton means m;word tone means m n;", "if shared and size=3 drop none;");
        row(x, 0, 0, 0);
        given(x, "the one of two is shared", x.fewest(0, 2), 1);
        given(x, "the FIRST", x.fewestAt(0), 1);
        given(x, "the FIRST", x.fewestAt(1), 0);
        x = with("meaning m;meaning n;word ton means m;word tone means m n;word z means n;", "if shared and size=3 drop none;if begins z drop none;");
        row(x, 0, 1, 0);
        given(x, "but not in the next row", x.fewest(0, 2), 1);
        given(x, "the FIRST", x.fewestAt(0), 1);
        given(x, "ways", x.ways(0, 2), 3);
        x = with("meaning m;word a means m;word b means m;");
        row(x, 0, 0, 0, 0);
        given(x, "ways", x.ways(0, 3), 0);
        given(x, "howFar", x.howFar(0, 3), 2);
        refused(x, "fewest", x.fewest(0, 3), 6);
        law(x, "if size>0 drop none;");
        given(x, "howFar by another LAW", x.howFar(0, 3), 3);
        law(x, "");
        given(x, "howFar by no LAW", x.howFar(0, 3), 2);
        law(x, "if size>0 drop none;");
        given(x, "ways by another LAW", x.ways(0, 3), 8);
        law(x, "");
        given(x, "ways by no LAW", x.ways(0, 3), 0);
        law(x, "if size>0 drop none;");
        given(x, "fewest by another LAW", x.fewest(0, 3), 0);
        law(x, "");
        refused(x, "fewest by no LAW", x.fewest(0, 3), 6);
    }

    private static void manyTexts() {
        promise = "10, 11";
        WornWords x = with("meaning m;word abc means m;");
        for (int k = 0; k < 60; k++) {
            given(x, "law", law(x, k % 2 == 0 ? "if size>0 drop first;" : "if size<0 or size=9 or size=8 or size=7 or size=6 drop first;"), 1);
            given(x, "loses(0)", x.loses(0), k % 2 == 0 ? 0 : 2);
        }
    }

    private static void howFarAndStory() {
        promise = "39 to 41";
        WornWords x = with("meaning m;meaning n;meaning o;word a means m;word bc means m n;word q means n;");
        row(x, 0, 0, 0, 0, 0, 1);
        given(x, "howFar", x.howFar(0, 5), 3);
        given(x, "howFar", x.howFar(0, 2), 2);
        row(x, 0, 2);
        given(x, "howFar", x.howFar(0, 1), 0);
        given(x, "cheap(0)", x.cheap(0), 1);
        refused(x, "cheap(2)", x.cheap(2), 6);
        refused(x, "cheap(3)", x.cheap(3), 1);
        refused(x, "cheap(-1)", x.cheap(-1), 1);
        row(x, 0, 0, 1, 2);
        refused(x, "one has none", x.story(0, 3), 6);
        given(x, "nothing is said", x.word(1, 2), 0);
        isForm(x, 1, "bc");
        given(x, "story", x.story(0, 2), 2);
        isForm(x, 1, "");
        given(x, "cheap(0)", x.cheap(0), 0);
        x = with("meaning m;word ab means m;word cd means m;", "if begins c drop none;");
        given(x, "of several the first", x.cheap(0), 0);
        row(x, 0, 0, 0, 0);
        given(x, "letters that it takes", x.story(0, 3), 1);
        isForm(x, 0, "a");
        given(x, "said", x.word(1, 2), 2);
    }

    private static void readings() {
        promise = "42";
        WornWords x = with(SUN);
        wrongRows("readings", x, x::readings, 6);
        row(x, 0, number("to"), number("t"), number("ton"), number("to"));
        given(x, "ton, tone", x.readings(0, 1), 2);
        given(x, "to t", x.readings(0, 2), 4);
        row(x, 0, number("t"), number("to"));
        given(x, "not back along a CHAIN", x.readings(0, 2), 2);
        row(x, 0, number("stone"), number("s"), number("st"));
        given(x, "in order", x.readings(0, 2), 1);
        given(x, "out of order", x.readings(0, 3), 0);
        row(x, 0, 31);
        given(x, "no FORM at all", x.readings(0, 1), 0);
        row(x, 0, Long.MAX_VALUE);
        given(x, "no FORM at all", x.readings(0, 1), 0);
        row(x, 0, 0);
        refused(x, "a number below 1", x.readings(0, 1), 5);
        x.say(0);
        x.pass(3);
        row(x, 0, number("stone"));
        given(x, "from the first FORM on", x.readings(0, 1), 1);
        x.say(1);
        x.say(1);
        x.say(1);
        row(x, 0, number("t"));
        given(x, "GONE ones not", x.readings(0, 1), 1);
        law(x, "if shared or said>3 or day>0 or idle>0 drop first;");
        row(x, 0, number("t"));
        given(x, "not shared, said never, DAY 0", x.readings(0, 1), 1);
        given(x, "cut", x.cut(0, 1, 2, 1, 0), 1);
        row(x, 0, number("se"));
        given(x, "one that was CUT", x.readings(0, 1), 1);
        x = with("meaning m;word ab means m;", "if said<2 drop none;");
        row(x, 0, number("ab"), number("ab"), number("ab"), number("a"));
        given(x, "FORMS that stay", x.readings(0, 4), 1);
        row(x, 0, number("ab"), number("ab"), number("ab"), number("ab"));
        given(x, "not longer than they stay", x.readings(0, 4), 0);
        law(x, "if said<38 drop none;");
        row(x, 0, number("a"));
        given(x, "the 40th FORM", x.readings(0, 1), 1);
        law(x, "if said<39 drop none;");
        given(x, "a 41st is not asked", x.readings(0, 1), 0);
        x = with("meaning m;" + twelve("word q", " means m"), "if size=1 and said<30 drop none;");
        row(x, 0, number("q"), number("q"), number("q"), number("q"), number("q"), number("q"));
        given(x, "all words in all places", x.readings(0, 6), 2985984);
    }

    private static void gossip() {
        promise = "43, 44";
        WornWords x = with("meaning m;speaker a;speaker b;speaker c;word ab means m;word xyz means m;");
        // Draws from seed 0: 13217 (by 8: 1652, by 3: 2), 51966 (by 8: 6495, by 2: 1): c says xyz to a and b.
        long s = 0;
        long[] drawn = new long[4];
        for (int k = 0; k < 4; k++) {
            s = (s * 2621 + 13217) % 65536;
            drawn[k] = s / 8;
        }
        given(x, "one day", x.gossip(0, 1), 2);
        given(x, "sayings", x.gossiped(0), 1);
        given(x, "heard", x.gossiped(1), 2);
        given(x, "words left", x.gossiped(2), 2);
        given(x, "letters left", x.gossiped(3), 4);
        given(x, "all is as it was", x.word(0, 2) + x.word(1, 2) + x.told(4), 0);
        isForm(x, 1, "xyz");
        given(x, "knows(0, 1)", x.knows(0, 1), number("xyz"));
        WornWords y = with("meaning m;speaker a;speaker b;speaker c;word ab means m;word xyz means m;");
        int understood = 0;
        for (int k = 0; k < 4; k += 2) {
            int speaker = (int) (drawn[k] % 3);
            understood += Integer.bitCount(y.tell(speaker, (int) (drawn[k + 1] % 2), 7 - (1 << speaker)));
        }
        given(x, "two days, as told by hand", x.gossip(0, 2), understood);
        refused(x, "seed -1", x.gossip(-1, 1), 1);
        refused(x, "seed 10000", x.gossip(10000, 1), 1);
        refused(x, "0 days", x.gossip(0, 0), 1);
        refused(x, "61 days", x.gossip(0, 61), 1);
        given(x, "of the latest with STATUS 0", x.gossiped(0), 2);
        refused(x, "gossiped(4)", x.gossiped(4), 1);
        refused(x, "gossiped(-1)", x.gossiped(-1), 1);
        x.gossip(9999, 60);
        given(x, "five letters are said at most", x.gossiped(0), 5);
        given(x, "heard", x.gossiped(1), 10);
        given(x, "none left", x.gossiped(2) + x.gossiped(3), 0);
        x = with("meaning m;speaker a;word ab means m;", "if day=0 drop none;if day>1 drop none;");
        given(x, "one alone is heard by none", x.gossip(5, 9), 0);
        given(x, "heard", x.gossiped(1), 0);
        given(x, "days go by", x.gossiped(3), 1);
        y = with("meaning m;word ab means m;");
        refused(y, "no SPEAKERS", y.gossip(0, 1), 6);
        y = with("meaning m;speaker s;");
        refused(y, "no words", y.gossip(0, 1), 6);
        refused(y, "none was told", y.gossiped(0), 6);
        refused(y, "1 is ahead of 6", y.gossiped(9), 1);
        y = with("meaning m;speaker s;speaker t;word a means m;");
        for (int k = 0; k < 10; k++) {
            y.pass(99);
        }
        y.pass(9);
        given(y, "the DAY stays at 999", y.gossip(0, 5), 1);
        y.say(0);
        given(y, "all GONE", y.gossip(0, 5), 0);
        given(y, "sayings", y.gossiped(0), 0);
    }

    private static void odds() {
        promise = "45";
        String text = "meaning m;speaker a;speaker b;speaker c;word abcdefgh means m;word stuvwx means m;";
        WornWords x = with(text);
        int understood = 0;
        int heard = 0;
        for (int seed = 30; seed < 50; seed++) {
            understood += x.gossip(seed, 60);
            heard += x.gossiped(1);
        }
        due("odds", x.odds(30, 20, 60), true);
        due("status", x.status(), 0);
        due("the FRACTION", x.top() * heard, x.bottom() * understood);
        for (long k = 2; k <= x.top(); k++) {
            due("no common divisor", x.top() % k == 0 && x.bottom() % k == 0, false);
        }
        due("gossiped stays", x.gossip(7, 9) + 100 * x.gossiped(0), x.gossip(7, 9) + 100 * (x.odds(1, 2, 3) ? x.gossiped(0) : -1));
        long top = x.top();
        refused(x, "seed -1", x.odds(-1, 1, 1), 1);
        refused(x, "many 0", x.odds(0, 0, 1), 1);
        refused(x, "many 21", x.odds(0, 21, 1), 1);
        refused(x, "days 0", x.odds(0, 1, 0), 1);
        refused(x, "days 61", x.odds(0, 1, 61), 1);
        refused(x, "the last above 9,999", x.odds(9999, 2, 1), 1);
        refused(x, "a great seed", x.odds(2147483647, 20, 1), 1);
        due("a refused one leaves the FRACTION", x.top(), top);
        due("odds(9980, 20, 1)", x.odds(9980, 20, 1), true);
        due("one saying each, all understand", x.top(), 1);
        due("one saying each, all understand", x.bottom(), 1);
        x = with("meaning m;speaker a;word abc means m;");
        refused(x, "nobody heard anything", x.odds(0, 1, 1), 6);
        x = with("meaning m;speaker a;speaker b;");
        refused(x, "no words", x.odds(0, 1, 1), 6);
        x = with("meaning m;word abc means m;");
        refused(x, "no SPEAKERS", x.odds(0, 1, 1), 6);
        x = with("meaning m;speaker a;speaker b;word abcd means m;");
        x.say(0);
        x.say(0);
        x.say(0);
        due("odds", x.odds(0, 3, 1), true);
        due("0 is 0 by 1", x.top(), 0);
        due("0 is 0 by 1", x.bottom(), 1);
        x = with("meaning m;");
        refused(x, "1 is ahead of 6", x.odds(0, 0, 1), 1);
    }

    private static void marks() {
        promise = "46, 47";
        WornWords x = with(SUN, "if begins s drop first;");
        given(x, "mark()", x.mark(), 1);
        x.tell(0, 0, 2);
        x.pass(3);
        given(x, "mark()", x.mark(), 2);
        village(x, "meaning q;speaker s;soft z;word zz means q;");
        law(x, "if size>0 drop none;if size>0 drop none;");
        given(x, "mark()", x.mark(), 3);
        refused(x, "mark()", x.mark(), 4);
        x.say(0);
        given(x, "back()", x.back(), 2);
        given(x, "said", x.word(0, 2), 0);
        given(x, "told(3)", x.told(3), 2);
        given(x, "back()", x.back(), 1);
        isForm(x, 0, "tone");
        given(x, "the VILLAGE ahead", x.told(1), 3);
        given(x, "its DAY", x.told(4), 3);
        given(x, "its LAW", x.told(3), 1);
        given(x, "back()", x.back(), 0);
        isForm(x, 0, "stone");
        given(x, "its DAY", x.told(4), 0);
        given(x, "its LAW", x.loses(0), 0);
        law(x, "if size>0 drop soft;");
        given(x, "its soft letters", x.loses(0), 4);
        refused(x, "back()", x.back(), 6);
        x = with("meaning m;speaker a;word abc means m;word abd means m;");
        x.say(0);
        x.winter();
        x.mark();
        x.say(0);
        x.tell(0, 1, 0);
        x.back();
        given(x, "what was said since winter, and lost", x.wintry(), 1);
        given(x, "knows", x.knows(0, 1), number("abd"));
        x.tray(0, 0, 1);
        row(x, 0, 0);
        x.mark();
        x.fewest(0, 1);
        x.gossip(0, 3);
        x.write(0, 0, 5);
        x.back();
        given(x, "TRAYS stay", x.read(0, 0), 5);
        given(x, "what fewest() found stays", x.fewestAt(0), 0);
        given(x, "what gossip() told stays", x.gossiped(0) > 0 ? 1 : 0, 1);
    }

    private static void nothingElseChanges() {
        promise = "all with another STATUS";
        WornWords x = with(SUN);
        long[] before = shape(x);
        x.say(9);
        x.tell(0, 0, 9);
        x.pass(0);
        x.cut(0, 9, 1, 9, 0);
        x.cut(0, 1, 1, 1, 9);
        x.story(0, 1);
        x.law(1);
        x.village(-5);
        x.back();
        feed(x, "meaning x;word x means y;");
        x.village(25);
        feed(x, "if size>0 drop all;");
        x.law(19);
        long[] behind = shape(x);
        for (int k = 0; k < before.length; k++) {
            due("answer " + k, behind[k], before[k]);
        }
    }

    private static long[] shape(WornWords x) {
        long[] all = new long[64];
        int k = 0;
        for (int what = 0; what < 6; what++) {
            all[k++] = x.told(what);
        }
        for (int word = 0; word < 3; word++) {
            all[k++] = x.form(word);
            all[k++] = x.knows(1, word);
            for (int what = 0; what < 6; what++) {
                all[k++] = x.word(word, what);
            }
        }
        all[k++] = x.wintry();
        all[k] = x.loses(0);
        return all;
    }
}
