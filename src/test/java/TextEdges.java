/** The edges of the tape, and of the texts of a VILLAGE and a LAW with their FAULTS, a sentence of the document each. */
public final class TextEdges extends Checks {
    private static final String[] RESERVED = ("meaning word means speaker soft if drop or and not shared begins ends has vowel size said day idle"
            + " first last hard middle none").split(" ");
    private static final String[] WHICH = {"first", "last", "soft", "hard", "middle", "vowel", "none"};
    private static final String[] ASKED = {"shared", "begins vowel", "ends a", "has vowel", "size<5", "said>5", "day=0", "idle<9"};

    public static void main(String[] args) {
        fullTape();
        bytesOfInts();
        firstBytes();
        fullTexts();
        singleBytes();
        numbers();
        tokensAsLongAsTheyGo();
        names();
        takenNames();
        lettersOfWords();
        meaningsOfWords();
        softLetters();
        tooManyParts();
        firstAlongTheText();
        cutTexts();
        wrongTokens();
        rules();
        asked();
        nested();
        notNested();
        comparedNumbers();
        lettersAsked();
        leastKind();
        takenVillage();
        takenLaw();
        faultsTold();
        end("the edges of texts hold");
    }

    // ------------------------------------------------------------------ the tape

    private static void fullTape() {
        promise = "9: NONE if there would be more than 900";
        WornWords x = new WornWords();
        for (int k = 1; k <= 45; k++) {
            due("feed " + k, x.feed(0x20202020, 0x20202020, 0x20202020, 0x20202020, 0x20202020), 20 * k);
        }
        due("feed 46", x.feed(0x23232323, 0, 0, 0, 0), -1);
        due("feed 47", x.feed(0x23232323, 0, 0, 0, 0), -1);
        due("status", x.status(), 0);
        refused(x, "village(901)", x.village(901), 1);
        refused(x, "law(301)", x.law(301), 1);
        due("the refused ones leave it full", x.feed(0, 0, 0, 0, 0), -1);
        given(x, "village(900)", x.village(900), 0);
        due("empty then", x.feed(0, 0, 0, 0, 0), 20);
        feed(x, " ".repeat(860));
        due("one below full", x.feed(0, 0, 0, 0, 0), 900);
        due("full", x.feed(0, 0, 0, 0, 0), -1);
        refused(x, "the first byte is 0", x.law(300), 9);
        due("a LAW with a FAULT leaves it empty", x.feed(0, 0, 0, 0, 0), 20);
        given(x, "law(0)", x.law(0), 0);
        due("a LAW of none leaves it empty", x.feed(0, 0, 0, 0, 0), 20);
        given(x, "village(0)", x.village(0), 0);
        refused(x, "nothing is left", x.village(1), 1);
        due("a VILLAGE of none leaves it empty", x.feed(0, 0, 0, 0, 0), 20);
    }

    /** A byte that begins no TOKEN is found where it stands. */
    private static void bytesOfInts() {
        promise = "9: the highest of each int first";
        for (int place = 0; place < 20; place++) {
            for (int sign : new int[] {'#', 0, 0x7f, 0x80, 0xff}) {
                int[] five = {0x20202020, 0x0a0a0a0a, 0x20202020, 0x20202020, 0x20200a0a};
                int shift = 24 - 8 * (place % 4);
                five[place / 4] = five[place / 4] & ~(255 << shift) | sign << shift;
                WornWords x = new WornWords();
                x.feed(five[0], five[1], five[2], five[3], five[4]);
                refused(x, "byte " + sign + " at " + place, x.village(20), 9);
                due("fault(0)", x.fault(0), 1);
                due("fault(1)", x.fault(1), place);
            }
        }
    }

    private static void firstBytes() {
        promise = "10, 11: the first n bytes of the tape, which is empty then";
        String text = "meaning ab;word abc means ab;#";
        WornWords x = new WornWords();
        feed(x, text);
        refused(x, "village(41) of 40", x.village(41), 1);
        refused(x, "all of them", x.village(40), 9);
        due("fault(1)", x.fault(1), 29);
        feed(x, text);
        given(x, "but for the last", x.village(29), 1);
        due("the tape is empty", x.feed(0, 0, 0, 0, 0), 20);
        x.law(0);
        feed(x, text);
        refused(x, "village(28)", x.village(28), 9);
        due("fault(0)", x.fault(0), 2);
        due("fault(1)", x.fault(1), 28);
        feed(x, text);
        refused(x, "village(27): the NAME is cut short", x.village(27), 9);
        due("fault(0)", x.fault(0), 3);
        due("fault(1)", x.fault(1), 26);
        feed(x, text);
        given(x, "village(11)", x.village(11), 0);
        given(x, "one MEANING", x.told(0), 1);
        feed(x, "if size>0 drop first;12345");
        given(x, "law(21)", x.law(21), 1);
        feed(x, "if size>0 drop first;12345");
        refused(x, "law(25): 4 digits", x.law(25), 9);
        due("fault(0)", x.fault(0), 2);
        due("fault(1)", x.fault(1), 21);
        feed(x, "if size>0 drop first;12345");
        refused(x, "law(26): 5 digits", x.law(26), 9);
        due("fault(0)", x.fault(0), 1);
        due("fault(1)", x.fault(1), 21);
        feed(x, "if size>0 drop first;");
        feed(x, "if size>0 drop first;");
        refused(x, "law(81) of 80", x.law(81), 1);
        refused(x, "what stands behind a text that was fed first", x.law(61), 9);
        due("fault(0): bytes of 0 between the two", x.fault(0), 1);
        due("fault(1)", x.fault(1), 21);
    }

    private static void fullTexts() {
        promise = "10: at most 900 bytes; 11: at most 300 bytes";
        StringBuilder b = new StringBuilder("soft zyxwvutsrqponmlkjihgfedcba;");
        for (char c = 'a'; c <= 'l'; c++) {
            b.append("meaning ").append("mmmmmmm").append(c).append(";");
        }
        for (char c = 'a'; c <= 'd'; c++) {
            b.append("speaker ").append("sssssss").append(c).append("\n;");
        }
        for (char c = 'a'; c <= 'l'; c++) {
            b.append("word ").append(c).append("zzzzzzz means ").append("mmmmmmm").append(c).append(";");
        }
        String ahead = b.substring(0, b.length() - 1);
        String whole = ahead + " ".repeat(899 - ahead.length()) + ";";
        WornWords x = new WornWords();
        due("length", whole.length(), 900);
        given(x, "a VILLAGE of 900 bytes", village(x, whole), 12);
        given(x, "MEANINGS", x.told(0), 12);
        given(x, "SPEAKERS", x.told(2), 4);
        isForm(x, 11, "lzzzzzzz");
        refused(x, "its last byte counts", village(x, whole.substring(0, 899) + "#"), 9);
        due("fault(0)", x.fault(0), 1);
        due("fault(1)", x.fault(1), 899);
        refused(x, "its end is at 900", village(x, whole.substring(0, 899) + " "), 9);
        due("fault(0)", x.fault(0), 2);
        due("fault(1)", x.fault(1), 900);
        refused(x, "a WORD of 900", village(x, "m".repeat(900)), 9);
        due("fault(0)", x.fault(0), 2);
        due("fault(1)", x.fault(1), 0);
        refused(x, "a NUMBER of 900", village(x, "7".repeat(900)), 9);
        due("fault(0)", x.fault(0), 1);
        due("fault(1)", x.fault(1), 0);
        String law = "if size>0 drop first" + " ".repeat(279) + ";";
        due("length", law.length(), 300);
        given(x, "a LAW of 300 bytes", law(x, law), 1);
        given(x, "told(3)", x.told(3), 1);
        refused(x, "its last byte counts", law(x, law.substring(0, 299) + "%"), 9);
        due("fault(1)", x.fault(1), 299);
        refused(x, "its end is at 300", law(x, law.substring(0, 299) + " "), 9);
        due("fault(1)", x.fault(1), 300);
        refused(x, "301 bytes", law(x, law + " "), 1);
        due("fault(1) stays", x.fault(1), 300);
    }

    // ------------------------------------------------------------------ TOKENS

    /** Each byte alone: blanks are none, what begins a TOKEN can't stand there, all else begins none. */
    private static void singleBytes() {
        promise = "10 to 12: TOKENS, between them blanks (10, 32)";
        for (int sign = 0; sign < 256; sign++) {
            boolean blank = sign == 10 || sign == 32;
            boolean token = sign >= 'a' && sign <= 'z' || sign >= '0' && sign <= '9' || sign == ';' || sign == '<' || sign == '>'
                    || sign == '=' || sign == '(' || sign == ')';
            String text = "" + (char) sign;
            aloneIs(text, blank ? 0 : token ? 2 : 1, true);
            aloneIs(text, blank ? 0 : token ? 2 : 1, false);
            boolean small = sign >= 'a' && sign <= 'z';
            villageFault("meaning" + (char) sign + "a;", blank ? 0 : small ? 2 : token ? 2 : 1, small ? 0 : 7);
            boolean digit = sign >= '0' && sign <= '9';
            lawFault("if size<1" + (char) sign + "drop last;", blank || digit ? 0 : token ? 2 : 1, 9);
        }
    }

    private static void aloneIs(String text, int kind, boolean isVillage) {
        WornWords x = new WornWords();
        long got = isVillage ? village(x, text) : law(x, text);
        String call = (isVillage ? "village" : "law") + " of byte " + (int) text.charAt(0);
        due(call, got, kind == 0 ? 0 : -1);
        due(call + ": status", x.status(), kind == 0 ? 0 : 9);
        due(call + ": fault(0)", x.fault(0), kind);
        due(call + ": fault(1)", x.fault(1), kind == 0 ? -1 : 0);
    }

    private static void villageFault(String text, int kind, int place) {
        WornWords x = new WornWords();
        fault("village " + text, x, village(x, text), kind, place);
        due("told(0) of a VILLAGE not taken", kind == 0 || x.told(0) == 0 && x.told(1) == 0 && x.told(2) == 0, true);
    }

    private static void lawFault(String text, int kind, int place) {
        WornWords x = new WornWords();
        fault("law " + text, x, law(x, text), kind, place);
        due("told(3) of a LAW not taken", kind == 0 || x.told(3) == 0, true);
    }

    private static void fault(String call, WornWords x, long got, int kind, int place) {
        due(call, got >= 0, kind == 0);
        due(call + ": status", x.status(), kind == 0 ? 0 : 9);
        due(call + ": fault(0)", x.fault(0), kind);
        due(call + ": fault(1)", x.fault(1), kind == 0 ? -1 : place);
    }

    private static void numbers() {
        promise = "12: 1 no TOKEN begins so (a NUMBER of 5 digits and more: at its first)";
        for (String four : new String[] {"0", "9", "00", "99", "000", "999", "0000", "9999", "1234"}) {
            villageFault(four, 2, 0);
            lawFault(four, 2, 0);
            lawFault("if size<5 " + four, 2, 10);
        }
        for (String five : new String[] {"00000", "00001", "12345", "99999", "123456", "4294967296", "18446744073709551616", "0".repeat(60)}) {
            villageFault(five, 1, 0);
            lawFault(five, 1, 0);
            lawFault("if size<" + five + " drop last;", 1, 8);
            lawFault("if size<5 " + five, 1, 10);
            villageFault("meaning x;" + five, 1, 10);
        }
        villageFault("meaning x;1234 5", 2, 10);
    }

    private static void tokensAsLongAsTheyGo() {
        promise = "10 to 12: TOKENS, as long as they go";
        villageFault("meaningx;", 2, 0);
        villageFault("mean ing x;", 2, 0);
        villageFault("meaning x1;", 2, 9);
        villageFault("meaning 1x;", 2, 8);
        villageFault("\n\n meaning \n x\n;\n", 0, 0);
        villageFault("meaning x;wordx means x;", 2, 10);
        villageFault("meaning x;word x meansx;", 2, 17);
        lawFault("if size<5drop last;", 0, 0);
        lawFault("if size<5 5 drop last;", 2, 10);
        lawFault("if(size<5)drop last;", 0, 0);
        lawFault("ifsize<5 drop last;", 2, 0);
        lawFault("if size<5 droplast;", 2, 10);
        lawFault("if notshared drop last;", 2, 3);
        lawFault("if size<\n5\n \ndrop\nlast\n;\n", 0, 0);
    }

    // ------------------------------------------------------------------ the VILLAGE

    private static void names() {
        promise = "10, 12: NAME: a WORD of 1 to 8 letters that is none of meaning, word ..";
        for (int size = 1; size <= 12; size++) {
            String name = "abcdefghijkl".substring(0, size);
            villageFault("meaning " + name + ";", size <= 8 ? 0 : 2, 8);
            villageFault("speaker " + name + ";", size <= 8 ? 0 : 2, 8);
            villageFault("meaning " + (size <= 8 ? name : "abcdefgh") + ";word q means " + name + ";", size <= 8 ? 0 : 2, size <= 8 ? 0 : 30);
        }
        for (String key : RESERVED) {
            villageFault("meaning " + key + ";", 2, 8);
            villageFault("speaker " + key + ";", 2, 8);
            villageFault("meaning x;word q means " + key + ";", 2, 23);
            villageFault("meaning x;word q means x " + key + ";", 2, 25);
            if (key.length() < 8) {
                villageFault("meaning x" + key.substring(1) + ";speaker " + key + "x;", 0, 0);
            }
            villageFault("meaning " + key.substring(0, key.length() - 1) + (key.equals("means") ? "z" : "") + ";", 0, 0);
        }
        villageFault("meaning ;", 2, 8);
        villageFault("meaning (;", 2, 8);
        villageFault("meaning x;word q means ;", 2, 23);
        // As a number, a WORD of more letters could be alike to a NAME: only its last letters would count.
        villageFault("meaning abcdefgh;word q means zzzzzabcdefgh;", 2, 30);
    }

    private static void takenNames() {
        promise = "10, 12: 3 a new NAME that is taken; one NAME is of one meaning or speaker alone";
        villageFault("meaning x;meaning x;", 3, 18);
        villageFault("meaning x;speaker x;", 3, 18);
        villageFault("speaker x;meaning x;", 3, 18);
        villageFault("speaker x;speaker x;", 3, 18);
        villageFault("meaning abcdefgh;meaning abcdefgi;speaker abcdefga;speaker zbcdefgh;", 0, 0);
        villageFault("meaning a;meaning aa;speaker aaa;meaning aaaa;", 0, 0);
        villageFault(twelve("meaning m", "").substring(0, 11 * 11) + "meaning ma;", 3, 11 * 11 + 8);
        villageFault(twelve("meaning m", "").substring(0, 11 * 11) + "meaning mk;", 3, 11 * 11 + 8);
        villageFault("speaker a;speaker b;speaker c;speaker c;", 3, 38);
        villageFault("speaker a;speaker b;speaker c;speaker a;", 3, 38);
        villageFault("meaning x;speaker s;word x means x;word s means x;", 0, 0);
    }

    private static void lettersOfWords() {
        promise = "10, 12: LETTERS: any WORD; behind word of 1 to 8 letters";
        for (int size = 1; size <= 12; size++) {
            villageFault("meaning x;word " + "abcdefghijkl".substring(0, size) + " means x;", size <= 8 ? 0 : 2, 15);
        }
        StringBuilder b = new StringBuilder("meaning x;");
        for (int k = 0; k < RESERVED.length; k += 2) {
            b.append("word ").append(RESERVED[k]).append(" means x;");
        }
        WornWords x = new WornWords();
        given(x, "WORDS that are no NAMES", village(x, b.toString()), 12);
        isForm(x, 0, "meaning");
        isForm(x, 11, "middle");
        b = new StringBuilder("meaning x;");
        for (int k = 1; k < RESERVED.length; k += 2) {
            b.append("word ").append(RESERVED[k]).append(" means x;");
        }
        given(x, "the others", village(x, b.toString()), 12);
        isForm(x, 0, "word");
        isForm(x, 11, "none");
        villageFault("meaning x;word ab means x;word ab means x;", 3, 31);
        villageFault("meaning x;word ab means x;word abc means x;word ab means x;", 3, 48);
        villageFault("meaning x;word ab means x;word abc means x;word abc means x;", 3, 48);
        villageFault("meaning x;word ab means x;word ba means x;word a means x;", 0, 0);
        villageFault("meaning x;word ab means x;word ab", 3, 31);
        villageFault("meaning x;word ; means x;", 2, 15);
        villageFault("meaning x;word 5 means x;", 2, 15);
        promise = "14: LETTERS as a number: a 1, b 2 .., 32 times what is ahead and that one";
        x = with("meaning m;word a means m;word z means m;word ab means m;word ba means m;word zzzzzzzz means m;word aaaaaaaa means m;word abcdefgh means m;");
        given(x, "a", x.form(0), 1);
        given(x, "z", x.form(1), 26);
        given(x, "ab", x.form(2), 34);
        given(x, "ba", x.form(3), 65);
        given(x, "zzzzzzzz", x.form(4), zs(8));
        given(x, "aaaaaaaa", x.form(5), zs(8) / 26);
        given(x, "abcdefgh", x.form(6), 1L << 35 | 2L << 30 | 3L << 25 | 4 << 20 | 5 << 15 | 6 << 10 | 7 << 5 | 8);
    }

    private static long zs(int letters) {
        long n = 0;
        for (int k = 0; k < letters; k++) {
            n = n * 32 + 26;
        }
        return n;
    }

    private static void meaningsOfWords() {
        promise = "10, 12: a NAME that is no MEANING told ahead; a MEANING again behind means (at it)";
        villageFault("word q means x;meaning x;", 3, 13);
        villageFault("speaker x;word q means x;", 3, 23);
        villageFault("meaning x;word q means y;", 3, 23);
        villageFault("meaning x;word q means x y;meaning y;", 3, 25);
        villageFault("meaning x;word q means x x;", 5, 25);
        villageFault("meaning x;meaning y;word q means x y x;", 5, 37);
        villageFault("meaning x;meaning y;word q means x y y;", 5, 37);
        String all = "word q means ma mb mc md me mf mg mh mi mj mk ml";
        villageFault(twelve("meaning m", "") + all + ";", 0, 0);
        villageFault(twelve("meaning m", "") + all + " ma;", 5, 132 + all.length() + 1);
        villageFault(twelve("meaning m", "") + all + " ml;", 5, 132 + all.length() + 1);
        villageFault(twelve("meaning m", "") + all + " mm;", 3, 132 + all.length() + 1);
        villageFault(twelve("meaning m", "") + all + " means;", 2, 132 + all.length() + 1);
        villageFault(twelve("meaning m", "") + all, 2, 132 + all.length());
        WornWords x = with(twelve("meaning m", "") + all + ";word r means ml;word s means ma;");
        given(x, "1 for MEANING 0, 2 for 1 ..", x.word(0, 1), 4095);
        given(x, "word(1, 1)", x.word(1, 1), 2048);
        given(x, "word(2, 1)", x.word(2, 1), 1);
        namesOfTheTextAhead();
    }

    private static void namesOfTheTextAhead() {
        promise = "10, 12: NAMES are those of the text that is read, not of one ahead of it";
        String[] ahead = {"meaning x;meaning y;speaker z;", "meaning x;meaning y;speaker z;)"};
        for (String text : ahead) {
            WornWords x = new WornWords();
            village(x, text);
            refused(x, "a MEANING of the text ahead", village(x, "meaning x;word q means y;"), 9);
            due("fault(0)", x.fault(0), 3);
            due("fault(1)", x.fault(1), 23);
            village(x, text);
            refused(x, "a MEANING of the text ahead, none told yet", village(x, "word q means x;"), 9);
            due("fault(0)", x.fault(0), 3);
            due("fault(1)", x.fault(1), 13);
            village(x, text);
            given(x, "NAMES of the text ahead are free again", village(x, "speaker y;speaker x;meaning z;word q means z;"), 1);
        }
    }

    private static void softLetters() {
        promise = "10, 12: soft LETTERS; 5 soft told already (at that WORD); a letter twice behind soft (at its WORD)";
        villageFault("soft a;", 0, 0);
        villageFault("soft abcdefghi;", 0, 0);
        villageFault("soft zyxwvutsrqponmlkjihgfedcba;", 0, 0);
        villageFault("soft zyxwvutsrqponmlkjihgfedcbaz;", 5, 5);
        villageFault("soft abcdefghijklmnopqrstuvwxyzz;", 5, 5);
        villageFault("soft aa;", 5, 5);
        villageFault("soft zz;", 5, 5);
        villageFault("soft abca;", 5, 5);
        villageFault("soft word;", 0, 0);
        villageFault("soft none;", 5, 5);
        villageFault("soft soft;", 0, 0);
        villageFault("soft a;soft b;", 5, 7);
        villageFault("soft a;soft", 5, 7);
        villageFault("soft a;soft 5;", 5, 7);
        villageFault("soft a;meaning x;soft a;", 5, 17);
        villageFault("soft a soft b;", 2, 7);
        villageFault("soft ;", 2, 5);
        villageFault("soft", 2, 4);
        promise = "10: SOFT letters: those behind soft, the first the softest; then all others as in the alphabet";
        WornWords x = with("meaning m;soft zn;word azn means m;word anbc means m;word cbad means m;word y means m;", "if size>0 drop soft;");
        given(x, "the first", x.loses(0), 1);
        given(x, "the second", x.loses(1), 1);
        given(x, "the others", x.loses(2), 2);
        given(x, "one alone", x.loses(3), 0);
        law(x, "if size>0 drop hard;");
        given(x, "the last of others", x.loses(0), 0);
        given(x, "c of anbc", x.loses(1), 3);
        given(x, "d of cbad", x.loses(2), 3);
        x = with("meaning m;soft zyxwvutsrqponmlkjihgfedcba;word azmy means m;", "if size>0 drop soft;if size=1 drop soft;");
        given(x, "z is the softest of all", x.loses(0), 1);
        law(x, "if size>0 drop hard;");
        given(x, "a is the hardest of all", x.loses(0), 0);
        x = with("meaning m;word azmy means m;", "if size>0 drop soft;");
        given(x, "none told: a is the softest", x.loses(0), 0);
        law(x, "if size>0 drop hard;");
        given(x, "none told: z is the hardest", x.loses(0), 1);
        for (char c = 'a'; c <= 'z'; c++) {
            char other = c == 'z' ? 'y' : 'z';
            x = with("meaning m;soft " + c + other + ";word " + other + c + " means m;word " + c + other + " means m;", "if size>0 drop soft;");
            given(x, c + " is softer than " + other, x.loses(0), 1);
            given(x, c + " is softer than " + other, x.loses(1), 0);
            x = with("meaning m;soft " + other + c + ";word " + other + c + " means m;word " + c + other + " means m;", "if size>0 drop soft;");
            given(x, other + " is softer than " + c, x.loses(0), 0);
            given(x, other + " is softer than " + c, x.loses(1), 1);
        }
        x = with("meaning m;word azmy means m;");
        village(x, "soft z;meaning m;word azmy means m;");
        village(x, "meaning m;word azmy means m;");
        law(x, "if size>0 drop soft;");
        given(x, "SOFT letters of the VILLAGE ahead are no more", x.loses(0), 0);
    }

    private static void tooManyParts() {
        promise = "10, 12: 6 a 13th meaning, word, a fifth speaker (at that WORD)";
        String meanings = twelve("meaning m", "");
        villageFault(meanings, 0, 0);
        villageFault(meanings + "meaning mm;", 6, 132);
        villageFault(meanings + "meaning ma;", 6, 132);
        villageFault(meanings + "meaning", 6, 132);
        villageFault(meanings + "meaning 5", 6, 132);
        villageFault(meanings + "speaker s;meaning", 6, 142);
        String words = "meaning x;" + twelve("word w", " means x");
        villageFault(words, 0, 0);
        villageFault(words + "word wm means x;", 6, words.length());
        villageFault(words + "word wa means x;", 6, words.length());
        villageFault(words + "word", 6, words.length());
        villageFault(words + "speaker s;word 5", 6, words.length() + 10);
        String speakers = "speaker a;speaker b;speaker c;speaker d;";
        villageFault(speakers, 0, 0);
        villageFault(speakers + "speaker e;", 6, 40);
        villageFault(speakers + "speaker a;", 6, 40);
        villageFault(speakers + "speaker", 6, 40);
        villageFault(speakers + "meaning x;speaker (", 6, 50);
        villageFault(meanings + "meaning".substring(0, 6), 2, 132);
    }

    private static void firstAlongTheText() {
        promise = "12: FAULTS, the first along the text (of one TOKEN the least kind)";
        villageFault("meaning x;meaning x;%", 3, 18);
        villageFault("%meaning x;meaning x;", 1, 0);
        villageFault("meaning x;soft aa;meaning x;", 5, 15);
        villageFault("soft a;soft b%", 5, 7);
        villageFault("meaning x x%", 2, 10);
        villageFault("meaning x%x", 1, 9);
        villageFault("meaning % x;", 1, 8);
        villageFault("meaning x;word % means x;", 1, 15);
        villageFault("meaning x;word abc % x;", 1, 19);
        villageFault("meaning x;word abc means %;", 1, 25);
        villageFault("meaning x;word abc means x %;", 1, 27);
        villageFault("soft %;", 1, 5);
        villageFault("soft a %;", 1, 7);
        villageFault("speaker %;", 1, 8);
        villageFault("speaker 12345;", 1, 8);
        villageFault("meaning x;word abc means x 12345;", 1, 27);
        lawFault("if shared drop last;if shared drop lost;%", 2, 35);
        lawFault("if shared drop last;%if", 1, 20);
        lawFault("if size<100 drop % ;", 4, 8);
        lawFault("if % size<100;", 1, 3);
    }

    private static final String VILLAGE = "meaning m ; speaker s ; soft abc ; word wa means m ; meaning n ; word wb means m n ; ";
    private static final String LAW = "if not ( shared or begins vowel ) and size < 5 drop last ; if has a or ends b and not said = 9 drop none ; ";

    /** Cut behind each TOKEN, a text ends where more must stand, but behind a ; */
    private static void cutTexts() {
        promise = "12: 2 it can't stand there (the end: the text's length)";
        for (int n = 0; n <= VILLAGE.length(); n++) {
            if (n == 0 || VILLAGE.charAt(n - 1) == ' ') {
                WornWords x = new WornWords();
                feed(x, VILLAGE);
                fault("village(" + n + ")", x, x.village(n), n == 0 || VILLAGE.charAt(n - 2) == ';' ? 0 : 2, n);
            }
        }
        for (int n = 0; n <= LAW.length(); n++) {
            if (n == 0 || LAW.charAt(n - 1) == ' ') {
                WornWords x = new WornWords();
                feed(x, LAW);
                fault("law(" + n + ")", x, x.law(n), n == 0 || LAW.charAt(n - 2) == ';' ? 0 : 2, n);
            }
        }
        villageFault("   \n  ", 0, 0);
        lawFault("   \n  ", 0, 0);
        villageFault("meaning x   \n  ", 2, 15);
        lawFault("if  \n ", 2, 6);
    }

    /** In place of each TOKEN one that can't stand there, or none at all. */
    private static void wrongTokens() {
        promise = "12: 1 no TOKEN begins so; 2 it can't stand there";
        inPlaceOfEach(VILLAGE, true, "#", 1, "");
        inPlaceOfEach(VILLAGE, true, "12345", 1, "");
        inPlaceOfEach(VILLAGE, true, ")", 2, "");
        inPlaceOfEach(VILLAGE, true, "<", 2, "");
        inPlaceOfEach(VILLAGE, true, "1234", 2, "");
        inPlaceOfEach(VILLAGE, true, "abcdefghi", 2, "abc");
        inPlaceOfEach(LAW, false, "#", 1, "");
        inPlaceOfEach(LAW, false, "12345", 1, "");
        inPlaceOfEach(LAW, false, "abcdefghi", 2, "");
        inPlaceOfEach(LAW, false, "if", 2, "if");
        inPlaceOfEach(LAW, false, "drop", 2, "drop and or");
        inPlaceOfEach(LAW, false, ";", 2, ";");
    }

    /** But where one of those TOKENS stands that it may stand for. */
    private static void inPlaceOfEach(String text, boolean isVillage, String wrongOne, int kind, String but) {
        String[] tokens = text.trim().split(" ");
        for (int k = 0; k < tokens.length; k++) {
            if ((" " + but + " ").contains(" " + tokens[k] + " ")) {
                continue;
            }
            StringBuilder b = new StringBuilder();
            int place = 0;
            for (int t = 0; t < tokens.length; t++) {
                place = t == k ? b.length() : place;
                b.append(t == k ? wrongOne : tokens[t]).append(" ");
            }
            if (isVillage) {
                villageFault(b.toString(), kind, place);
            } else {
                lawFault(b.toString(), kind, place);
            }
        }
    }

    // ------------------------------------------------------------------ the LAW

    private static void rules() {
        promise = "11, 12: 6 a 13th RULE (at its if)";
        String rule = "if shared drop last;";
        for (int many = 0; many <= 12; many++) {
            WornWords x = new WornWords();
            given(x, many + " RULES", law(x, rule.repeat(many)), many);
            given(x, "told(3)", x.told(3), many);
        }
        lawFault(rule.repeat(12) + rule, 6, 240);
        lawFault(rule.repeat(12) + "if", 6, 240);
        lawFault(rule.repeat(12) + "if 5", 6, 240);
        lawFault(rule.repeat(12) + "drop", 2, 240);
        lawFault(rule.repeat(12) + "#", 1, 240);
        lawFault(rule.repeat(12) + "\n ", 0, 0);
        for (String which : WHICH) {
            lawFault("if shared drop " + which + ";", 0, 0);
        }
        for (String key : RESERVED) {
            boolean is = String.join(" ", WHICH).contains(key) && !key.equals("or") && !key.equals("has");
            lawFault("if shared drop " + key + ";", is ? 0 : 2, 15);
        }
        lawFault("if shared drop lasts;", 2, 15);
        lawFault("if shared drop a;", 2, 15);
        lawFault("if shared drop 1;", 2, 15);
    }

    private static void asked() {
        promise = "11, 12: 6 a 25th of shared, begins, ends, has, CASE in all (at its WORD)";
        for (String one : ASKED) {
            String rest = "shared" + " or shared".repeat(22);
            lawFault("if " + rest + " or " + one + " drop last;", 0, 0);
            String full = "if " + rest + " or shared or ";
            lawFault(full + one + " drop last;", 6, full.length());
            String word = one.split("[ <>=]")[0];
            lawFault(full + word, 6, full.length());
        }
        String two = "if " + "shared or ".repeat(11) + "shared drop last;";
        lawFault(two.repeat(2), 0, 0);
        lawFault(two.repeat(2) + "if not(shared)drop none;", 6, two.length() * 2 + 7);
        lawFault(two.repeat(2) + "if not(5", 2, two.length() * 2 + 7);
        lawFault(two.repeat(2) + "if drop", 2, two.length() * 2 + 3);
        // A LAW that was not taken leaves nothing that counts for the next one.
        WornWords x = new WornWords();
        refused(x, "a 25th", law(x, two.repeat(2) + "if shared"), 9);
        given(x, "24 in the next LAW", law(x, two.repeat(2)), 2);
    }

    private static void nested() {
        promise = "11, 12: 7 a ONE within six of not and brackets (at its first TOKEN)";
        for (int mask = 0; mask < 64; mask++) {
            deep(mask, 5, 0, 0);
            deep(mask, 6, 7, 0);
        }
        deep(0, 7, 7, 0);
        deep(127, 7, 7, 0);
        deep(5, 6, 7, 2);
    }

    /** Brackets and nots by the bits of a mask, so many of them, with a RULE of five of them ahead. */
    private static void deep(int mask, int many, int kind, int ahead) {
        StringBuilder b = new StringBuilder("if(((((shared)))))drop last;".repeat(ahead)).append("if ");
        StringBuilder behind = new StringBuilder();
        int sixth = 0;
        for (int k = 0; k < many; k++) {
            if (k == 6) {
                sixth = b.length();
            }
            boolean not = (mask >> k & 1) == 1;
            b.append(not ? "not " : "(");
            behind.append(not ? "" : ")");
        }
        int place = many == 6 ? b.length() : sixth;
        lawFault(b + "shared" + behind + " drop last;", kind, place);
    }

    private static void notNested() {
        promise = "11, 12: 7 a ONE within six: those side by side don't count together";
        lawFault("if (((((shared)))))or(((((shared)))))and not not not not not shared drop last;", 0, 0);
        lawFault("if (shared)and(shared)and(shared)and(shared)and(shared)and(shared)and(shared)drop last;", 0, 0);
        lawFault("if not shared and not shared and not shared and not shared and not shared and not shared and not shared drop last;", 0, 0);
        lawFault("if (((((shared)or(shared)))))drop last;", 0, 0);
        lawFault("if (((((shared or(shared)))))drop last;", 7, 18);
        lawFault("if (((((shared or not shared))))) drop last;", 7, 22);
        lawFault("if (((((shared and shared or shared))))) drop last;", 0, 0);
    }

    private static void comparedNumbers() {
        promise = "11, 12: 4 a NUMBER that can't be (0 to 99)";
        for (String kind : new String[] {"size", "said", "day", "idle"}) {
            for (String compares : new String[] {"<", ">", "="}) {
                String ahead = "if " + kind + compares;
                for (String well : new String[] {"0", "1", "98", "99", "00", "099", "0099", "0000"}) {
                    lawFault(ahead + well + " drop last;", 0, 0);
                }
                for (String wrongOne : new String[] {"100", "0100", "101", "127", "128", "255", "256", "999", "9999"}) {
                    lawFault(ahead + wrongOne + " drop last;", 4, ahead.length());
                }
                lawFault(ahead + "00099 drop last;", 1, ahead.length());
                lawFault(ahead + "10000 drop last;", 1, ahead.length());
                lawFault(ahead + "<5 drop last;", 2, ahead.length());
                lawFault(ahead + "vowel drop last;", 2, ahead.length());
                lawFault(ahead + "100", 4, ahead.length());
            }
            lawFault("if " + kind + " drop last;", 2, kind.length() + 4);
            lawFault("if " + kind + " 100 drop last;", 2, kind.length() + 4);
            lawFault("if " + kind + "(5) drop last;", 2, kind.length() + 3);
        }
    }

    private static void lettersAsked() {
        promise = "11, 12: LETTER: a WORD of one letter, or vowel";
        for (String kind : new String[] {"begins", "ends", "has"}) {
            String ahead = "if " + kind + " ";
            for (char c = 'a'; c <= 'z'; c++) {
                lawFault(ahead + c + " drop last;", 0, 0);
            }
            lawFault(ahead + "vowel drop last;", 0, 0);
            for (String wrongOne : new String[] {"aa", "ab", "vowels", "vowe", "or", "if", "middle", "abcdefghi", "5", "(a)", ";", "<"}) {
                lawFault(ahead + wrongOne + " drop last;", 2, ahead.length());
            }
            lawFault(ahead + "A drop last;", 1, ahead.length());
            lawFault(ahead, 2, ahead.length());
        }
        lawFault("if a drop last;", 2, 3);
        lawFault("if vowel drop last;", 2, 3);
        lawFault("if shared a drop last;", 2, 10);
    }

    private static void leastKind() {
        promise = "12: of one TOKEN the least kind";
        String full = "if shared" + " or shared".repeat(23) + " drop last;";
        lawFault(full + "if ((((((shared", 6, full.length() + 9);
        lawFault(full + "if ((((((;", 2, full.length() + 9);
        lawFault(full + "if ((((((#", 1, full.length() + 9);
        lawFault(full + "if ((((((12345", 1, full.length() + 9);
        lawFault(full + "if ((((((not", 7, full.length() + 9);
        lawFault(full + "if ((((((", 2, full.length() + 9);
        lawFault("if ((((((drop", 2, 9);
        lawFault("if shared drop last;".repeat(12) + "#", 1, 240);
        villageFault(twelve("meaning m", "") + "meaning mn meaning", 6, 132);
    }

    // ------------------------------------------------------------------ what is taken

    private static void takenVillage() {
        promise = "10: DAY 0, nothing was said, all SPEAKERS know all words as they are, there is no LAW";
        String text = "meaning m;speaker s;speaker t;word abcdef means m;word xy means m;";
        WornWords x = with(text, "if size>0 drop first;");
        x.pass(9);
        x.tell(0, 0, 2);
        x.tell(1, 0, 1);
        x.say(1);
        x.winter();
        x.cut(0, 1, 1, 1, 0);
        given(x, "the same VILLAGE again", village(x, text), 2);
        given(x, "DAY", x.told(4), 0);
        given(x, "RULES", x.told(3), 0);
        given(x, "no Law: the last", x.loses(0), 5);
        for (int word = 0; word < 2; word++) {
            given(x, "said", x.word(word, 2), 0);
            refused(x, "never said", x.word(word, 3), 6);
            given(x, "lost", x.word(word, 4), 0);
            for (int speaker = 0; speaker < 2; speaker++) {
                given(x, "knows", x.knows(speaker, word), x.form(word));
            }
        }
        isForm(x, 0, "abcdef");
        given(x, "wintry", x.wintry(), 0);
        refused(x, "no word 2", x.form(2), 1);
        x.pass(8);
        said(x, 0, 3);
        x.wintry();
        x.lasts(0);
        x.gossip(1, 9);
        row(x, 0, 0);
        x.story(0, 1);
        x.wintry();
        given(x, "behind calls that try what would be", village(x, text), 2);
        given(x, "DAY", x.told(4), 0);
        given(x, "said", x.word(0, 2), 0);
        given(x, "lost", x.word(0, 4), 0);
        given(x, "knows", x.knows(1, 0), number("abcdef"));
        x.winter();
        given(x, "wintry", x.wintry(), 0);
        given(x, "the empty one", x.village(0), 0);
        for (int what = 0; what < 6; what++) {
            given(x, "told(" + what + ")", x.told(what), 0);
        }
        refused(x, "no word 0", x.form(0), 1);
        refused(x, "no MEANING 0", x.words(0), 1);
        refused(x, "no SPEAKER 0", x.knows(0, 0), 1);
        due("fault(0)", x.fault(0), 0);
        due("fault(1)", x.fault(1), -1);
        given(x, "words come as they stand", village(x, "meaning m;speaker u;word b means m;meaning n;word a means n;speaker t;word ab means m n;"), 3);
        isForm(x, 0, "b");
        isForm(x, 1, "a");
        isForm(x, 2, "ab");
        given(x, "words(1)", x.words(1), 6);
        given(x, "a SPEAKER told behind the words knows them", x.knows(1, 0), 2);
    }

    private static void takenLaw() {
        promise = "11: likewise the LAW (none at first)";
        WornWords x = with("meaning m;word abcd means m;");
        given(x, "none at first", x.told(3), 0);
        given(x, "without a RULE the last", x.loses(0), 3);
        x.pass(4);
        x.say(0);
        given(x, "a LAW", law(x, "if size>0 drop first;"), 1);
        given(x, "the DAY stays", x.told(4), 4);
        given(x, "what was said stays", x.word(0, 2), 1);
        given(x, "in place of that ahead", law(x, "if size>9 drop none;if size>0 drop middle;"), 2);
        given(x, "loses(0)", x.loses(0), 1);
        given(x, "one of no RULES", x.law(0), 0);
        given(x, "told(3)", x.told(3), 0);
        given(x, "loses(0)", x.loses(0), 2);
        law(x, "if size>0 drop first;if size>0 drop last;");
        refused(x, "one with a FAULT", law(x, "if size>0 drop none;if"), 9);
        given(x, "the old one stays", x.told(3), 2);
        given(x, "loses(0)", x.loses(0), 0);
        refused(x, "a VILLAGE with a FAULT", village(x, "meaning"), 9);
        given(x, "the LAW stays", x.loses(0), 0);
    }

    private static void faultsTold() {
        promise = "12: of the latest village() or law() with STATUS 0 or 9; NONE ahead of any";
        WornWords x = new WornWords();
        due("fault(0) ahead of any", x.fault(0), -1);
        due("fault(1) ahead of any", x.fault(1), -1);
        refused(x, "village(1) of none", x.village(1), 1);
        due("fault(0) stays", x.fault(0), -1);
        refused(x, "a FAULT", village(x, "meaning x;meaning x;"), 9);
        due("fault(0)", x.fault(0), 3);
        due("fault(1)", x.fault(1), 18);
        refused(x, "law(-1)", x.law(-1), 1);
        due("fault(0) stays", x.fault(0), 3);
        given(x, "law(0)", x.law(0), 0);
        due("fault(0)", x.fault(0), 0);
        due("fault(1)", x.fault(1), -1);
        refused(x, "a FAULT at 0", law(x, "drop"), 9);
        due("fault(0)", x.fault(0), 2);
        due("fault(1)", x.fault(1), 0);
        refused(x, "village(-1)", x.village(-1), 1);
        due("fault(1) stays", x.fault(1), 0);
        given(x, "village(0)", x.village(0), 0);
        due("fault(0)", x.fault(0), 0);
        due("fault(1)", x.fault(1), -1);
        x.mark();
        x.village(-1);
        law(x, "%");
        x.back();
        due("fault(2)", x.fault(2), -1);
        due("fault(-1)", x.fault(-1), -1);
    }
}
