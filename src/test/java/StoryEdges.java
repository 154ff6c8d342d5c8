/** The edges of stories, READINGS, GOSSIP and FRACTIONS, a sentence of the document each. */
public final class StoryEdges extends Checks {
    public static void main(String[] args) {
        rowLengths();
        meaningsInTrays();
        ways();
        waysOfUnions();
        fewest();
        firstRow();
        rowKept();
        lettersOfUnions();
        howFar();
        cheap();
        stories();
        storyLeaves();
        readingLengths();
        readingChains();
        readingTwice();
        readingWords();
        readingLaw();
        readingFortieth();
        draws();
        gossipEdges();
        gossipOfGone();
        gossipDays();
        gossipLeaves();
        gossipKept();
        oddsEdges();
        fractions();
        fullRun();
        end("the edges of stories hold");
    }

    interface RowCall {
        long on(WornWords x, int tray, int many);
    }

    private static void rowLengths() {
        promise = "36 to 41: so many MEANINGS (1 to 5) in a TRAY (1, 2, 3, 5)";
        lengths("ways", WornWords::ways, new long[] {0, 1, 1, 1, 1, 1});
        lengths("fewest", WornWords::fewest, new long[] {0, 1, 2, 3, 4, 5});
        lengths("howFar", WornWords::howFar, new long[] {0, 1, 2, 3, 4, 5});
        lengths("story", WornWords::story, new long[] {0, 1, 2, 3, 4, 5});
    }

    /** A word of eight letters alone: each MEANING takes one. */
    private static void lengths(String name, RowCall c, long[] due) {
        for (int size : new int[] {0, 1, 4, 5, 6, 60}) {
            for (int many = -1; many <= 7; many++) {
                for (int sort = 0; sort < 4; sort++) {
                    WornWords x = with("meaning m;word abcdefgh means m;");
                    x.tray(sort, sort, size);
                    String call = name + " of " + many + " in a TRAY of " + size;
                    long got = c.on(x, sort, many);
                    if (many < 1 || many > 5) {
                        refused(x, call, got, 1);
                    } else if (many > size) {
                        refused(x, call, got, 3);
                    } else {
                        given(x, call, got, due[many]);
                    }
                    long missing = c.on(x, (sort + 1) % 4, many);
                    refused(x, name + " of a MISSING one", missing, many < 1 || many > 5 ? 1 : 2);
                    refused(x, name + " of none", c.on(x, sort == 0 ? -1 : 4, many), 1);
                }
            }
        }
    }

    private static void meaningsInTrays() {
        promise = "36 to 41: 5 a number in a TRAY that can't be";
        for (int meanings = 0; meanings <= 12; meanings++) {
            String text = meanings == 0 ? "" : twelve("meaning m", "").substring(0, 11 * meanings);
            for (long number : new long[] {Long.MIN_VALUE, -1, 0, 1, meanings - 1, meanings, 12, 32, 1L << 32, Long.MAX_VALUE}) {
                for (int place = 0; place < 3; place += 2) {
                    if (meanings == 0 && place > 0) {
                        continue;
                    }
                    WornWords x = with(text);
                    row(x, 0, 0, 0, 0);
                    x.write(0, place, number);
                    boolean is = number >= 0 && number < meanings;
                    long[] got = {x.ways(0, place + 1), x.howFar(0, place + 1)};
                    for (long one : got) {
                        due("a MEANING " + number + " of " + meanings, one, is ? 0 : -1);
                    }
                    due("status", x.status(), is ? 0 : 5);
                    refused(x, "fewest", x.fewest(0, place + 1), is ? 6 : 5);
                    refused(x, "story", x.story(0, place + 1), is ? 6 : 5);
                    if (meanings > 0 && place == 2) {
                        given(x, "a number behind so many is not asked", x.ways(0, 2), 0);
                    }
                }
            }
        }
        WornWords x = with("meaning m;word ab means m;");
        x.tray(0, 0, 1);
        x.write(0, 0, 256);
        given(x, "cut to its sort: MEANING 0", x.ways(0, 1), 1);
        x.tray(0, 0, 1);
        x.write(0, 0, 255);
        refused(x, "cut to its sort: -1", x.ways(0, 1), 5);
    }

    private static void ways() {
        promise = "36: WAYS: how many rows of words tell it";
        WornWords x = with("meaning m;meaning n;meaning o;word ab means m;word cd means m n;word ef means n;");
        row(x, 0, 0, 1, 0, 1, 0);
        given(x, "of one", x.ways(0, 1), 2);
        given(x, "of two", x.ways(0, 2), 4);
        // All rows but those in which cd stands three times or more: it has two letters.
        given(x, "of three", x.ways(0, 3), 7);
        given(x, "of four", x.ways(0, 4), 11);
        row(x, 1, 2);
        given(x, "none has it", x.ways(1, 1), 0);
        row(x, 1, 0, 0, 0, 0, 0);
        given(x, "four sayings", x.ways(1, 4), 6);
        given(x, "there is no fifth", x.ways(1, 5), 0);
        given(x, "nothing is said", x.told(5) * 10 + x.word(0, 2), 30);
        law(x, "if size>0 drop none;");
        given(x, "for ever", x.ways(1, 5), 32);
        x = with("meaning m;" + twelve("word ", "bcdef means m"));
        row(x, 0, 0, 0, 0, 0, 0);
        long twelfth = 1;
        for (int many = 1; many <= 5; many++) {
            twelfth *= 12;
            given(x, "twelve words", x.ways(0, many), twelfth);
        }
    }

    private static void waysOfUnions() {
        promise = "36: a word that is not GONE and has that MEANING by then";
        WornWords x = with("meaning m;meaning n;word ab means m;word abc means n;");
        row(x, 0, 1, 0);
        given(x, "abc, then ab with both MEANINGS", x.ways(0, 2), 1);
        row(x, 0, 0, 1);
        given(x, "ab, then abc", x.ways(0, 2), 1);
        row(x, 0, 1, 1);
        given(x, "abc, then ab", x.ways(0, 2), 1);
        row(x, 0, 1, 1, 1);
        given(x, "abc, then ab, then a", x.ways(0, 3), 1);
        row(x, 0, 1, 1, 1, 1);
        given(x, "no more", x.ways(0, 4), 0);
        row(x, 0, 0, 0, 0);
        given(x, "ab alone", x.ways(0, 3), 0);
        x = with("meaning m;meaning n;word abc means m;word ab means n;");
        row(x, 0, 0, 1, 0);
        given(x, "abc, then ab, then ab", x.ways(0, 3), 1);
        row(x, 0, 0, 0, 1);
        given(x, "abc, then ab, then a", x.ways(0, 3), 1);
        row(x, 0, 1, 0, 1);
        given(x, "ab, then abc, then a or what was abc: not ONE", x.ways(0, 3), 1);
        row(x, 0, 1, 1, 0);
        given(x, "ab, then a, then abc", x.ways(0, 3), 1);
        x = with("meaning m;word abc means m;word ab means m;word a means m;");
        row(x, 0, 0, 0, 0);
        given(x, "what became ONE in one row is two words in the next", x.ways(0, 2), 6);
        given(x, "of three", x.ways(0, 3), 8);
        given(x, "nothing is said", x.told(5), 3);
    }

    private static void fewest() {
        promise = "37: FEWEST: the fewest letters lost together; 6: it can't be told";
        WornWords x = with("meaning m;meaning n;word ab means m;word cd means m;word q means n;", "if begins c drop none;");
        row(x, 0, 0, 0, 0, 0, 0);
        given(x, "none lost", x.fewest(0, 5), 0);
        law(x, "if begins c and said<3 drop none;");
        given(x, "three times none", x.fewest(0, 3), 0);
        given(x, "then one", x.fewest(0, 4), 1);
        given(x, "then two", x.fewest(0, 5), 2);
        law(x, "");
        given(x, "one", x.fewest(0, 1), 1);
        given(x, "four", x.fewest(0, 4), 4);
        refused(x, "five can't be told", x.fewest(0, 5), 6);
        row(x, 1, 0, 1, 1);
        given(x, "two", x.fewest(1, 2), 2);
        refused(x, "the third can't be told", x.fewest(1, 3), 6);
        law(x, "if said=0 drop none;");
        given(x, "the first saying of each costs none", x.fewest(1, 3), 1);
        row(x, 1, 0, 0, 0, 0);
        given(x, "the first saying of each costs none", x.fewest(1, 2), 0);
        given(x, "then one", x.fewest(1, 3), 1);
        given(x, "nothing is said", x.word(0, 2) + x.word(1, 2), 0);
        x = with("meaning m;" + twelve("word ", "bcdef means m"), "if begins l and said<4 drop none;if begins k and said=4 drop none;");
        row(x, 0, 0, 0, 0, 0, 0);
        given(x, "the last of twelve", x.fewest(0, 4), 0);
        given(x, "and one more", x.fewest(0, 5), 1);
        x = with("meaning m;word abc means m;word xyz means m;", "if begins x drop none;if size>0 drop last;");
        row(x, 0, 0, 0);
        given(x, "none lost by the first of two RULES", x.fewest(0, 2), 0);
        rowIs(x, 1, 1);
        law(x, "if begins a drop last;if size>0 drop none;");
        given(x, "none lost by the last of two RULES", x.fewest(0, 2), 0);
        rowIs(x, 1, 1);
    }

    private static void rowIs(WornWords x, int... words) {
        for (int k = 0; k < words.length; k++) {
            given(x, "fewestAt(" + k + ")", x.fewestAt(k), words[k]);
        }
        for (int k = words.length; k < 7; k++) {
            refused(x, "fewestAt(" + k + ")", x.fewestAt(k), 6);
        }
        refused(x, "fewestAt(-1)", x.fewestAt(-1), 6);
    }

    private static void firstRow() {
        promise = "37, 38: the FIRST row of words with these (by numbers, the first word first)";
        WornWords x = with("meaning m;word abc means m;word def means m;word ghi means m;");
        row(x, 0, 0, 0, 0, 0, 0);
        for (int many = 1; many <= 5; many++) {
            given(x, "fewest", x.fewest(0, many), many);
            rowIs(x, java.util.Arrays.copyOf(new int[] {0, 0, 0, 1, 1}, many));
        }
        law(x, "if said=1 drop none;");
        given(x, "fewest", x.fewest(0, 2), 1);
        rowIs(x, 0, 0);
        given(x, "fewest", x.fewest(0, 3), 2);
        rowIs(x, 0, 0, 0);
        given(x, "fewest", x.fewest(0, 4), 2);
        rowIs(x, 0, 0, 1, 1);
        given(x, "fewest", x.fewest(0, 5), 3);
        rowIs(x, 0, 0, 0, 1, 1);
        law(x, "if begins g drop none;");
        given(x, "fewest", x.fewest(0, 5), 0);
        rowIs(x, 2, 2, 2, 2, 2);
        law(x, "if begins g or begins d drop none;");
        given(x, "fewest", x.fewest(0, 3), 0);
        rowIs(x, 1, 1, 1);
        law(x, "if said=0 and not begins a drop none;");
        given(x, "fewest", x.fewest(0, 2), 0);
        rowIs(x, 1, 2);
        given(x, "fewest", x.fewest(0, 3), 1);
        rowIs(x, 0, 1, 2);
    }

    private static void rowKept() {
        promise = "38: by fewest() latest with STATUS 0 (6: none such)";
        WornWords x = with("meaning m;meaning n;word abc means m;word def means m;");
        refused(x, "ahead of any", x.fewestAt(0), 6);
        row(x, 0, 0, 0, 1);
        refused(x, "can't be told", x.fewest(0, 3), 6);
        refused(x, "ahead of any with STATUS 0", x.fewestAt(0), 6);
        given(x, "fewest", x.fewest(0, 2), 2);
        rowIs(x, 0, 0);
        refused(x, "can't be told", x.fewest(0, 3), 6);
        rowIs(x, 0, 0);
        refused(x, "no such TRAY", x.fewest(3, 3), 2);
        refused(x, "too few", x.fewest(0, 4), 3);
        row(x, 1, 9);
        refused(x, "no MEANING", x.fewest(1, 1), 5);
        x.ways(0, 2);
        x.howFar(0, 3);
        x.story(0, 1);
        rowIs(x, 0, 0);
        x.mark();
        rowIs(x, 0, 0);
        x.back();
        rowIs(x, 0, 0);
        law(x, "if begins d drop none;");
        given(x, "a shorter one", x.fewest(0, 1), 0);
        rowIs(x, 1);
    }

    private static void lettersOfUnions() {
        promise = "37, 41: letters lost, when two words become ONE by a saying";
        WornWords x = with("meaning m;word ab means m;word abc means m;", "if begins a and size=2 and said=0 drop none;");
        row(x, 0, 0, 0, 0);
        given(x, "each saying costs its letter", x.story(0, 1), 1);
        isForm(x, 0, "ab");
        given(x, "ONE", x.told(5), 1);
        given(x, "two letters are left", x.story(0, 2), 2);
        refused(x, "none are left", x.story(0, 1), 6);
        x = with("meaning m;meaning n;word abcd means m;word abc means n;");
        row(x, 0, 0, 1);
        given(x, "fewest", x.fewest(0, 2), 2);
        rowIs(x, 0, 0);
    }

    private static void howFar() {
        promise = "39: HOW FAR: the most MEANINGS of it, from its beginning on, that can be told";
        WornWords x = with("meaning m;meaning n;meaning o;word ab means m;word c means m n;word d means n;");
        row(x, 0, 2, 0, 0, 0, 0);
        given(x, "none at all", x.howFar(0, 5), 0);
        given(x, "none at all", x.howFar(0, 1), 0);
        row(x, 0, 0, 2, 0, 0, 0);
        given(x, "one", x.howFar(0, 5), 1);
        row(x, 0, 0, 0, 0, 0, 0);
        given(x, "three", x.howFar(0, 5), 3);
        given(x, "three", x.howFar(0, 4), 3);
        given(x, "three of three", x.howFar(0, 3), 3);
        given(x, "two of two", x.howFar(0, 2), 2);
        row(x, 0, 0, 1, 1, 1, 1);
        given(x, "ab, then both others", x.howFar(0, 5), 3);
        row(x, 0, 1, 1, 0, 0, 0);
        given(x, "both others, then ab twice", x.howFar(0, 5), 4);
        row(x, 0, 0, 0, 1, 1, 0);
        given(x, "the better way", x.howFar(0, 5), 4);
        given(x, "nothing is said", x.told(5), 3);
        x.say(1);
        x.say(2);
        given(x, "the best that is left", x.howFar(0, 5), 2);
        x = with("meaning m;meaning n;word c means m n;word d means n;word e means m;");
        row(x, 0, 0, 1, 1, 1);
        given(x, "a later word leads farther than the first one", x.howFar(0, 4), 3);
        x = with("meaning m;meaning n;word e means m;word d means n;word c means m n;");
        row(x, 0, 0, 1, 1, 1);
        given(x, "an earlier word leads farther than the last one", x.howFar(0, 4), 3);
    }

    private static void cheap() {
        promise = "40: CHEAP: the word that has it with the most letters (of several the first); 6: none";
        WornWords x = with("meaning m;meaning n;word ab means m;word abc means n;word xyz means m n;word cdef means m;");
        given(x, "the most letters", x.cheap(0), 3);
        given(x, "of several the first", x.cheap(1), 1);
        given(x, "say", x.say(3), 3);
        given(x, "of two the first", x.cheap(0), 2);
        x.say(3);
        x.say(2);
        given(x, "of three with two letters the first", x.cheap(0), 0);
        refused(x, "no MEANING", x.cheap(2), 1);
        refused(x, "no MEANING", x.cheap(-1), 1);
        x = with("meaning m;meaning n;word a means m;");
        given(x, "one letter", x.cheap(0), 0);
        refused(x, "none has it", x.cheap(1), 6);
        x.say(0);
        refused(x, "GONE", x.cheap(0), 6);
    }

    private static void stories() {
        promise = "41: a STORY is TOLD (to nobody), each by its CHEAP word: how many letters that takes";
        WornWords x = with("meaning m;meaning n;word abcd means m;word efg means m;word q means n;");
        row(x, 0, 0, 0, 0, 1, 0);
        x.pass(7);
        given(x, "all five", x.story(0, 5), 5);
        // abcd, abc (of several the first), efg, q, ab (of several the first).
        isForm(x, 0, "a");
        isForm(x, 1, "ef");
        isForm(x, 2, "");
        given(x, "said", x.word(0, 2) * 100 + x.word(1, 2) * 10 + x.word(2, 2), 311);
        given(x, "today", x.word(0, 3), 7);
        given(x, "the DAY stays", x.told(4), 7);
        given(x, "said since the winter", x.wintry(), 0);
        row(x, 0, 0, 1);
        refused(x, "q is GONE", x.story(0, 2), 6);
        isForm(x, 1, "ef");
        given(x, "one alone", x.story(0, 1), 1);
        isForm(x, 1, "e");
        x = with("meaning m;word abcd means m;", "if said<4 drop none;");
        row(x, 0, 0, 0, 0, 0, 0);
        given(x, "none lost but one", x.story(0, 5), 1);
        given(x, "said", x.word(0, 2), 5);
        law(x, "if size>0 drop none;");
        given(x, "none at all", x.story(0, 5), 0);
        given(x, "said", x.word(0, 2), 10);
    }

    private static void storyLeaves() {
        promise = "41: 6: one has none by then: nothing is said";
        for (int well = 1; well <= 4; well++) {
            int length = well;
            Made made = () -> {
                WornWords x = with("meaning m;speaker s;speaker t;word " + "abcd".substring(0, length) + " means m;");
                x.pass(3);
                x.winter();
                row(x, 0, 0, 0, 0, 0, 0);
                return x;
            };
            refuses(made, 6, "a story of one more than letters", x -> x.story(0, length + 1));
            WornWords x = made.make();
            given(x, "as many as letters", x.story(0, length), length);
            given(x, "GONE", x.told(5), 0);
            refused(x, "no more", x.story(0, 1), 6);
        }
    }

    // ------------------------------------------------------------------ READINGS

    private static void readingLengths() {
        promise = "42: so many FORMS (1 to 6) in a TRAY (1, 2, 3; 5: a number below 1)";
        for (int size : new int[] {0, 1, 5, 6, 7, 60}) {
            for (int many = -1; many <= 8; many++) {
                WornWords x = with("meaning m;word abcdefgh means m;");
                x.tray(1, 2, size);
                for (int k = 0; k < size; k++) {
                    x.write(1, k, number("abcdef".substring(0, Math.max(1, 6 - k))));
                }
                String call = "readings of " + many + " in a TRAY of " + size;
                if (many < 1 || many > 6) {
                    refused(x, call, x.readings(1, many), 1);
                    refused(x, call + ", MISSING", x.readings(2, many), 1);
                } else if (many > size) {
                    refused(x, call, x.readings(1, many), 3);
                    refused(x, call + ", MISSING", x.readings(2, many), 2);
                } else {
                    given(x, call, x.readings(1, many), 1);
                }
                refused(x, "no TRAY", x.readings(4, many), 1);
                refused(x, "no TRAY", x.readings(-1, many), 1);
            }
        }
        for (int place = 0; place < 6; place++) {
            for (long number : new long[] {0, -1, Long.MIN_VALUE, 1, 27, 32, Long.MAX_VALUE}) {
                WornWords x = with("meaning m;word abcdefgh means m;");
                row(x, 0, 34, 34, 34, 34, 34, 34);
                x.write(0, place, number);
                if (number < 1) {
                    refused(x, "a number below 1", x.readings(0, place + 1), 5);
                } else {
                    given(x, "a number that is a FORM, or none", x.readings(0, place + 1), place == 0 && number == 1 || place == 1 && number == 1 ? 1 : 0);
                }
                if (place > 0) {
                    given(x, "a number behind so many is not asked", x.readings(0, 1), 1);
                }
            }
        }
        WornWords x = with("meaning m;word ab means m;");
        x.tray(0, 0, 1);
        x.write(0, 0, 257);
        given(x, "cut to its sort: a", x.readings(0, 1), 1);
        x.write(0, 0, 128);
        refused(x, "cut to its sort: -128", x.readings(0, 1), 5);
    }

    private static long read(WornWords x, String... forms) {
        long[] row = new long[forms.length];
        for (int k = 0; k < forms.length; k++) {
            row[k] = number(forms[k]);
        }
        row(x, 0, row);
        return x.readings(0, forms.length);
    }

    private static void readingChains() {
        promise = "42: each FORM is on the CHAIN of that word (as it was told or cut, from its first FORM on)";
        WornWords x = with("meaning m;word abcdefgh means m;word abcxyz means m;");
        given(x, "the first FORM", read(x, "abcdefgh"), 1);
        given(x, "the last FORM", read(x, "a"), 2);
        given(x, "one of both CHAINS", read(x, "abc"), 2);
        given(x, "one of one CHAIN", read(x, "abcx"), 1);
        given(x, "one of no CHAIN", read(x, "abcy"), 0);
        given(x, "longer than it was", read(x, "abcxyzz"), 0);
        said(x, 0, 6);
        isForm(x, 0, "ab");
        given(x, "as it was told", read(x, "abcdefgh"), 1);
        given(x, "what it has lost already", read(x, "abcdefg"), 1);
        x.winter();
        x.winter();
        given(x, "winters don't matter", read(x, "abcdefgh"), 1);
        given(x, "cut", x.cut(1, 3, 0, 1, 0), 2);
        isForm(x, 2, "abcc");
        given(x, "as it was cut", read(x, "abcc"), 1);
        given(x, "what it becomes", read(x, "abc"), 3);
        law(x, "if size>4 drop first;if size=4 drop middle;if size<3 drop none;");
        given(x, "by the LAW there is", read(x, "efgh"), 1);
        given(x, "by the LAW there is", read(x, "efh"), 1);
        given(x, "by the LAW there is", read(x, "ef"), 1);
        given(x, "by that alone", read(x, "abcd"), 0);
        given(x, "where none goes", read(x, "e"), 0);
    }

    private static void readingTwice() {
        promise = "42: of a word that stands twice or more each FORM lies farther along its CHAIN than the one ahead of it";
        WornWords x = with("meaning m;word abcdefgh means m;");
        given(x, "in order", read(x, "abcdefgh", "abcdefg", "abcdef", "abcde", "abcd", "abc"), 1);
        given(x, "with gaps", read(x, "abcdefgh", "abc", "a"), 1);
        given(x, "the same FORM again", read(x, "abc", "abc"), 0);
        given(x, "back", read(x, "ab", "abc"), 0);
        given(x, "back behind others", read(x, "abcde", "abc", "abcd"), 0);
        given(x, "the last two alike", read(x, "abcde", "abc", "abc"), 0);
        x = with("meaning m;word abc means m;word abcd means m;");
        given(x, "one each", read(x, "abc", "abc"), 2);
        given(x, "no third", read(x, "abc", "abc", "abc"), 0);
        given(x, "back by the other one", read(x, "ab", "abc"), 2);
        given(x, "two and two", read(x, "abc", "abc", "ab", "ab"), 4);
        given(x, "and two", read(x, "abc", "abc", "ab", "ab", "a", "a"), 8);
        given(x, "one of the one alone", read(x, "abcd", "abc", "abc"), 2);
        x = with("meaning m;word abc means m;", "if said<3 drop none;");
        given(x, "four times the same along the CHAIN", read(x, "abc", "abc", "abc", "abc"), 1);
        given(x, "not five times", read(x, "abc", "abc", "abc", "abc", "abc"), 0);
        given(x, "then on", read(x, "abc", "abc", "abc", "abc", "ab", "a"), 1);
        given(x, "not back", read(x, "ab", "abc"), 0);
        law(x, "if size>0 drop none;");
        given(x, "six times", read(x, "abc", "abc", "abc", "abc", "abc", "abc"), 1);
    }

    private static void readingWords() {
        promise = "42: how many rows of words there are (GONE ones not)";
        WornWords x = with("meaning m;" + twelve("word ", "q means m"), "if size=2 drop first;if size=1 drop none;");
        row(x, 0, 17, 17, 17, 17, 17, 17);
        long rows = 1;
        for (int many = 1; many <= 6; many++) {
            rows *= 12;
            given(x, "all twelve", x.readings(0, many), rows);
        }
        law(x, "if size=2 drop first;if size=1 and said<7 drop none;");
        given(x, "as long as q lasts", x.readings(0, 6), 2985984);
        village(x, "");
        given(x, "no words", x.readings(0, 1), 0);
        village(x, "meaning m;word ab means m;word ac means m;word q means m;");
        given(x, "two", read(x, "a"), 2);
        x.say(0);
        given(x, "still two", read(x, "a"), 2);
        x.say(0);
        given(x, "one is GONE", read(x, "a"), 1);
        given(x, "its first FORM is read no more", read(x, "ab"), 0);
        given(x, "the number of one that is GONE", x.cut(1, 2, 1, 2, 0), 0);
        given(x, "is read as it was cut", read(x, "acac"), 1);
        given(x, "not as it was told", read(x, "ab"), 0);
        village(x, "meaning m;word ab means m;word abc means m;");
        given(x, "two", read(x, "ab"), 2);
        x.say(1);
        given(x, "ONE", read(x, "ab"), 1);
        given(x, "the greater one's CHAIN is GONE", read(x, "abc"), 0);
    }

    private static void readingLaw() {
        promise = "42: LAW as for a word said never, not shared, on DAY 0";
        String[] laws = {"said>0", "shared", "day>0", "idle>0", "day=7", "said=2", "idle=7 or idle=3"};
        for (String law : laws) {
            boolean later = law.startsWith("said");
            WornWords x = with("meaning m;meaning n;word abcd means m n;", "if " + law + " drop first;");
            given(x, "ahead of all, " + law, read(x, "abc"), 1);
            law(x, "if size>0 drop none;");
            x.pass(4);
            said(x, 0, 2);
            x.pass(3);
            law(x, "if " + law + " drop first;");
            given(x, "as if never, " + law, read(x, "abc"), 1);
            given(x, "as if never, " + law, read(x, "abcd", "abc", law.equals("said>0") ? "bc" : "ab"), 1);
            given(x, "as if never, " + law, read(x, "abc", "ab", law.equals("said=2") ? "b" : "a"), law.equals("said>0") ? 0 : 1);
            due("sayings along the CHAIN count", later, law.equals("said>0") || law.equals("said=2"));
        }
        WornWords x = with("meaning m;word abcd means m;", "if day=0 drop first;");
        x.pass(9);
        given(x, "DAY 0", read(x, "bcd"), 1);
        law(x, "if not shared drop first;");
        village(x, "meaning m;meaning n;word abcd means m n;");
        law(x, "if not shared drop first;");
        given(x, "not shared", read(x, "bcd"), 1);
        given(x, "though it is", x.loses(0), 3);
        for (String idle : new String[] {"idle=0", "idle<1", "not idle>0", "not idle<0"}) {
            x = with("meaning m;word abcd means m;", "if " + idle + " drop first;");
            given(x, "ahead of all, " + idle, read(x, "bcd", "cd", "d"), 1);
            x.pass(7);
            x.say(0);
            x.pass(2);
            given(x, "idle as if never said, " + idle, read(x, "bcd", "cd", "d"), 1);
        }
    }

    /** chain() tells the FORMS behind 0 to 39 sayings, and "at most 40" of them are a CHAIN. */
    private static void readingFortieth() {
        promise = "42: CHAIN: at most 40 FORMS";
        WornWords x = with("meaning m;word ab means m;", "if said<38 drop none;");
        given(x, "the 40th FORM", read(x, "a"), 1);
        given(x, "chain(0, 39)", x.chain(0, 39), 1);
        law(x, "if said<39 drop none;");
        given(x, "a 41st", read(x, "a"), 0);
        given(x, "chain(0, 39)", x.chain(0, 39), 34);
    }

    // ------------------------------------------------------------------ GOSSIP

    /** What GOSSIP is, told by tell() and pass(): understood, sayings, heard, not GONE, letters. */
    private static long[] byHand(WornWords x, int seed, int days) {
        int speakers = x.told(2);
        int words = x.told(1);
        long[] all = new long[5];
        long s = seed;
        for (int k = 0; k < days; k++) {
            s = (s * 2621 + 13217) % 65536;
            int speaker = (int) (s / 8 % speakers);
            s = (s * 2621 + 13217) % 65536;
            int word = (int) (s / 8 % words);
            if (x.form(word) != 0) {
                int others = (1 << speakers) - 1 - (1 << speaker);
                all[0] += Integer.bitCount(x.tell(speaker, word, others));
                all[1]++;
                all[2] += speakers - 1;
            }
            x.pass(1);
        }
        all[3] = x.told(5);
        for (int word = 0; word < words; word++) {
            all[4] += x.word(word, 0);
        }
        return all;
    }

    private static void gossipIs(WornWords x, int seed, int days, long[] due) {
        String call = "gossip(" + seed + ", " + days + ")";
        given(x, call, x.gossip(seed, days), due[0]);
        for (int what = 0; what < 4; what++) {
            given(x, call + ": gossiped(" + what + ")", x.gossiped(what), due[what + 1]);
        }
    }

    private static void draws() {
        promise = "43: draws: s becomes what is left of s times 2,621 and 13,217 by 65,536; the rest of s by 8, rounded down, by n";
        String names = "speaker a;speaker b;speaker c;speaker d;";
        String words = twelve("word ", "qwertyu means m");
        for (int speakers = 1; speakers <= 4; speakers++) {
            for (int many : new int[] {1, 2, 3, 7, 11, 12}) {
                int end = 0;
                for (int k = 0; k < many; k++) {
                    end = words.indexOf(';', end) + 1;
                }
                String text = "meaning m;" + names.substring(0, 10 * speakers) + words.substring(0, end);
                for (int seed : new int[] {0, 1, 7, 8, 4711, 9998, 9999}) {
                    for (int days : new int[] {1, 2, 59, 60}) {
                        String law = seed % 2 == 0 ? "" : "if said=0 drop middle;if day>30 drop none;if idle>2 drop first;";
                        gossipIs(with(text, law), seed, days, byHand(with(text, law), seed, days));
                    }
                }
            }
        }
        // By hand: from 0 s is 13217 (by 8: 1652, by 3: 2), then 51966 (by 8: 6495, by 2: 1).
        WornWords x = with("meaning m;speaker a;speaker b;speaker c;word ab means m;word xyz means m;");
        gossipIs(x, 0, 1, new long[] {2, 1, 2, 2, 4});
    }

    private static void gossipEdges() {
        promise = "43: a seed (0 to 9,999) for so many days (1 to 60); 6: no SPEAKERS, no words";
        for (int seed : new int[] {-1, 0, 9999, 10000}) {
            for (int days : new int[] {0, 1, 60, 61}) {
                boolean is = seed >= 0 && seed < 10000 && days > 0 && days < 61;
                WornWords x = with("meaning m;speaker s;speaker t;word ab means m;", "if size>0 drop none;");
                String call = "gossip(" + seed + ", " + days + ")";
                if (is) {
                    given(x, call, x.gossip(seed, days), days);
                    given(x, "sayings", x.gossiped(0), days);
                } else {
                    refused(x, call, x.gossip(seed, days), 1);
                    refused(x, "none was told", x.gossiped(0), 6);
                }
                for (String empty : new String[] {"", "meaning m;", "speaker s;", "meaning m;word a means m;"}) {
                    x = with(empty);
                    refused(x, call + " of " + empty, x.gossip(seed, days), is ? 6 : 1);
                    refused(x, "odds of " + empty, x.odds(seed, 1, days), is ? 6 : 1);
                    refused(x, "none was told", x.gossiped(0), 6);
                }
            }
        }
    }

    private static void gossipOfGone() {
        promise = "43: if that is GONE nothing is said; the words there are (12 at most, GONE ones too)";
        WornWords x = with("meaning m;speaker s;speaker t;word a means m;word b means m;");
        x.say(0);
        x.say(1);
        gossipIs(x, 3, 60, new long[] {0, 0, 0, 0, 0});
        String text = "meaning m;speaker s;speaker t;word a means m;word bcdefgh means m;word c means m;";
        for (int seed = 0; seed < 20; seed++) {
            WornWords one = with(text);
            one.say(0);
            one.say(2);
            WornWords other = with(text);
            other.say(0);
            other.say(2);
            gossipIs(one, seed, 60, byHand(other, seed, 60));
        }
        x = with("meaning m;speaker s;speaker t;word abcdefgh means m;");
        gossipIs(x, 3, 60, new long[] {8, 8, 8, 0, 0});
        gossipIs(x, 3, 8, new long[] {8, 8, 8, 0, 0});
        gossipIs(x, 3, 7, new long[] {7, 7, 7, 1, 1});
        x = with("meaning m;speaker s;word abcdefgh means m;");
        gossipIs(x, 3, 3, new long[] {0, 3, 0, 1, 5});
    }

    private static void gossipDays() {
        promise = "43: then the DAY goes by (999 at most)";
        for (int day : new int[] {0, 1, 938, 939, 940, 990, 998, 999}) {
            for (int last : new int[] {97, 98, 99}) {
                WornWords x = onDay(with("meaning m;speaker s;speaker t;word abcdefgh means m;", "if day=" + last + " drop first;if size>0 drop none;"), day);
                int from = Math.max(day, last);
                boolean capped = last == 99;
                int times = capped ? Math.min(8, Math.max(0, day + 60 - from)) : day <= last && last < day + 60 ? 1 : 0;
                given(x, "gossip", x.gossip(1, 60) - x.gossip(1, 60), 0);
                given(x, "letters lost on DAY " + last + " from " + day, 8 - x.gossiped(3), times);
                given(x, "the DAY is as it was", x.told(4), day);
            }
        }
        WornWords x = onDay(with("meaning m;speaker s;speaker t;word abcdefgh means m;", "if idle>0 drop first;if size>0 drop none;"), 997);
        // Of DAYS 997, 998, 999, 999 and 999 the first three are no DAY said on.
        x.gossip(1, 5);
        given(x, "at 999 it stays", x.gossiped(3), 5);
    }

    private static void gossipLeaves() {
        promise = "43, 45: behind it all is as it was";
        Made made = () -> {
            WornWords x = with("meaning m;speaker s;speaker t;speaker u;soft q;word abcdefgh means m;word abcdefg means m;word q means m;word xyz means m;",
                    "if begins x drop soft;if size=8 drop last;");
            x.pass(3);
            x.tell(0, 3, 2);
            x.say(2);
            x.winter();
            x.mark();
            x.gossip(77, 9);
            return x;
        };
        WornWords x = made.make();
        x.gossip(77, 9);
        same("gossip()", everything(x, true), everything(made.make(), true));
        Made asked = () -> {
            WornWords y = made.make();
            y.odds(5, 2, 30);
            return y;
        };
        WornWords y = asked.make();
        given(y, "odds", y.odds(5, 2, 30));
        same("odds()", everything(y, true), everything(asked.make(), true));
    }

    private static void gossipKept() {
        promise = "44: of gossip() latest with STATUS 0";
        WornWords x = with("meaning m;speaker s;speaker t;word abcdefgh means m;");
        refused(x, "there was none", x.gossiped(0), 6);
        refused(x, "1 is ahead of 6", x.gossiped(4), 1);
        given(x, "odds", x.odds(1, 2, 3));
        refused(x, "odds() is no gossip()", x.gossiped(0), 6);
        x.gossip(1, 2);
        given(x, "sayings", x.gossiped(0), 2);
        given(x, "odds", x.odds(1, 2, 5));
        given(x, "odds() is no gossip()", x.gossiped(0), 2);
        refused(x, "with STATUS 1", x.gossip(1, 61), 1);
        given(x, "stays", x.gossiped(0), 2);
        village(x, "");
        refused(x, "with STATUS 6", x.gossip(1, 3), 6);
        given(x, "stays", x.gossiped(0), 2);
        given(x, "letters left", x.gossiped(3), 6);
        village(x, "meaning m;speaker s;word ab means m;");
        given(x, "another one, with nobody to hear", x.gossip(1, 1), 0);
        given(x, "sayings", x.gossiped(0), 1);
        given(x, "heard", x.gossiped(1), 0);
        given(x, "not GONE", x.gossiped(2), 1);
        given(x, "letters", x.gossiped(3), 1);
    }

    private static void oddsEdges() {
        promise = "45: by so many seeds (1 to 20) from one on together (1: the last above 9,999, too)";
        for (int many : new int[] {-1, 0, 1, 2, 19, 20, 21}) {
            for (int last : new int[] {9998, 9999, 10000}) {
                int seed = last + 1 - Math.max(1, many);
                WornWords x = with("meaning m;speaker s;speaker t;word ab means m;", "if size>0 drop none;");
                boolean is = many > 0 && many < 21 && last < 10000;
                String call = "odds(" + seed + ", " + many + ", 1)";
                if (is) {
                    given(x, call, x.odds(seed, many, 1));
                    due("top", x.top(), 1);
                    due("bottom", x.bottom(), 1);
                } else {
                    refused(x, call, x.odds(seed, many, 1), 1);
                    due("top", x.top(), 0);
                    due("bottom", x.bottom(), 1);
                }
            }
        }
        WornWords x = with("meaning m;speaker s;speaker t;word ab means m;");
        refused(x, "from -1 on", x.odds(-1, 20, 1), 1);
        given(x, "from 0 on", x.odds(0, 20, 60));
        refused(x, "no days", x.odds(0, 20, 0), 1);
        refused(x, "61 days", x.odds(0, 20, 61), 1);
        for (int many = 1; many <= 20; many++) {
            String text = "meaning m;speaker s;speaker t;speaker u;word abcdefgh means m;word ijklmnop means m;word xyz means m;";
            x = with(text, "if said>2 drop first;");
            x.tell(0, 0, 0);
            said(x, 0, 2);
            long understood = 0;
            long heard = 0;
            for (int k = 0; k < many; k++) {
                understood += x.gossip(100 + k, 12);
                heard += x.gossiped(1);
            }
            given(x, "odds of " + many, x.odds(100, many, 12));
            due("top times heard", x.top() * heard, x.bottom() * understood);
            due("without a common divisor", divisor(x.top(), x.bottom()), 1);
            due("some did not understand", x.top() < x.bottom(), true);
        }
    }

    private static long divisor(long a, long b) {
        return b == 0 ? a : divisor(b, a % b);
    }

    private static void fractions() {
        promise = "3, 4, 45: without a common divisor, the bottom above 0; 0 is 0 by 1";
        WornWords x = new WornWords();
        due("top at first", x.top(), 0);
        due("bottom at first", x.bottom(), 1);
        village(x, "meaning m;speaker s;speaker t;word abcd means m;");
        said(x, 0, 3);
        given(x, "nobody understands", x.odds(0, 20, 1));
        due("top", x.top(), 0);
        due("bottom", x.bottom(), 1);
        village(x, "meaning m;speaker s;speaker t;word abcd means m;");
        given(x, "all understand", x.odds(0, 20, 1));
        due("top", x.top(), 1);
        due("bottom", x.bottom(), 1);
        // One word of two is three letters shorter than known: one day, seeds that draw the one or the other.
        village(x, "meaning m;speaker s;speaker t;word abcd means m;word efgh means m;");
        said(x, 0, 3);
        int well = 0;
        for (int seed = 0; seed < 20; seed++) {
            long s = (seed * 2621L + 13217) % 65536;
            s = (s * 2621 + 13217) % 65536;
            well += s / 8 % 2;
        }
        given(x, "some understand", x.odds(0, 20, 1));
        due("top", x.top(), well / divisor(well, 20));
        due("bottom", x.bottom(), 20 / divisor(well, 20));
        long top = x.top();
        refused(x, "refused", x.odds(0, 21, 1), 1);
        due("top stays", x.top(), top);
        village(x, "meaning m;speaker s;word abcd means m;");
        refused(x, "nobody heard anything", x.odds(0, 20, 60), 6);
        due("top stays", x.top(), top);
        x.gossip(1, 1);
        due("gossip() tells no FRACTION", x.top(), top);
        // 589 by 678, a FRACTION for which Euclid takes eleven rounds.
        StringBuilder text = new StringBuilder("meaning m;speaker s;speaker t;speaker u;speaker v;");
        for (char c = 'a'; c <= 'l'; c++) {
            text.append("word ").append(("" + c).repeat(8)).append(" means m;");
        }
        x = with(text.toString());
        for (int word = 0; word < 12; word += 2) {
            said(x, word, 4);
        }
        long understood = 0;
        long heard = 0;
        for (int seed = 25; seed < 40; seed++) {
            understood += x.gossip(seed, 50);
            heard += x.gossiped(1);
        }
        due("understood, by seeds", understood, 1767);
        due("heard, by seeds", heard, 2034);
        given(x, "fifteen seeds", x.odds(25, 15, 50));
        due("top", x.top(), 589);
        due("bottom", x.bottom(), 678);
    }

    /** The dearest calls, 512 on one object. */
    private static void fullRun() {
        promise = "an object is used for at most 512 calls";
        WornWords x = with("meaning m;speaker a;speaker b;speaker c;speaker d;" + twelve("word ", "bcdefgh means m"), "if said>2 and shared or has z drop first;");
        row(x, 0, 0, 0, 0, 0, 0);
        long ways = 0;
        long odds = 0;
        for (int k = 0; k < 60; k++) {
            ways += x.ways(0, 5) + x.fewest(0, 5) + x.howFar(0, 5);
            odds += x.odds(k, 20, 60) ? x.top() > 0 ? 1 : 0 : 0;
            x.lasts(0);
            x.wintry();
        }
        due("ways, fewest, howFar", ways, 60 * (248832 + 5 + 5));
        due("odds", odds, 60);
    }
}
