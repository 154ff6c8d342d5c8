import java.util.LinkedHashMap;
import java.util.Map;

/**
 * What each call changes, and that it changes no more than that: all that can be asked behind it
 * is compared, part by part, with an object that was made the same way and didn't make the call.
 */
public final class ChangeRuns extends Checks {
    /** Of a word all that can be asked, but what SPEAKERS know of it. */
    private static final String OF_WORD = "(form|word|loses|chain|life|twin|follows \\d) ";

    public static void main(String[] args) {
        asking();
        telling();
        traysAndTexts();
        sayings();
        tellings();
        daysAndWinters();
        cuts();
        stories();
        marks();
        villages();
        end("calls change what they must, and no more");
    }

    /** Words "stone", "tne", "tone" (said or not, told or not), "q" GONE, two MARKS, three TRAYS, a tape, a FAULT. */
    private static WornWords rich() {
        WornWords x = new WornWords();
        village(x, "meaning m;speaker s;speaker t;word abcd means m;word b means m;");
        said(x, 0, 3);
        given(x, "a FRACTION that is no whole number", x.odds(0, 20, 1));
        village(x, "meaning m;meaning n;meaning o;speaker s;speaker t;speaker u;soft eo;"
                + "word stone means m;word tine means n;word tone means m n;word q means o;");
        law(x, "if said=0 and size=5 drop last;if begins t and said=0 drop middle;if idle=9 drop first;");
        x.mark();
        x.pass(3);
        x.tell(0, 0, 2);
        x.say(3);
        x.winter();
        x.tell(2, 1, 3);
        x.mark();
        x.tray(0, 0, 3);
        x.write(0, 1, 1);
        x.tray(1, 3, 3);
        x.write(1, 0, number("tone"));
        x.write(1, 1, number("ton"));
        x.tray(2, 0, 3);
        x.write(2, 0, 5);
        x.fewest(0, 2);
        x.gossip(5, 3);
        feed(x, "meaning zz;%");
        x.village(12);
        feed(x, "meaning m;speaker s;word ab means m;");
        return x;
    }

    /** All parts of what can be asked, each with its answer; the object is used up by that. */
    private static Map<String, String> parts(WornWords x) {
        Map<String, String> all = new LinkedHashMap<>();
        all.put("fraction", x.top() + "/" + x.bottom());
        all.put("fault", x.fault(0) + " at " + x.fault(1));
        for (int tray = 0; tray < 4; tray++) {
            all.put("tray " + tray, tray(x, tray));
        }
        for (int k = 0; k < 5; k++) {
            all.put("fewestAt " + k, "" + x.fewestAt(k));
        }
        for (int what = 0; what < 4; what++) {
            all.put("gossiped " + what, "" + x.gossiped(what));
        }
        addVillage(x, all, "");
        all.put("wintry", x.wintry() + ", behind a winter of " + x.winter() + " " + x.wintry());
        for (int left = x.back(); left >= 0; left = x.back()) {
            all.put("mark " + left, "there");
            addVillage(x, all, "mark " + left + " ");
        }
        int taped = x.feed(0, 0, 0, 0, 0);
        all.put("tape", taped + " taken as " + x.village(Math.max(taped - 20, 0)) + " " + x.fault(0) + " " + x.fault(1) + " " + x.form(0));
        return all;
    }

    private static String tray(WornWords x, int tray) {
        StringBuilder b = new StringBuilder();
        int place = 0;
        for (long v = x.read(tray, 0); x.status() == 0; v = x.read(tray, place)) {
            b.append(v).append(" ");
            place++;
        }
        return b.append("status ").append(x.status()).toString();
    }

    private static void addVillage(WornWords x, Map<String, String> all, String ahead) {
        for (int what = 0; what < 6; what++) {
            all.put(ahead + "told " + what, "" + x.told(what));
        }
        for (int word = 0; word < x.told(1); word++) {
            all.put(ahead + "form " + word, letters(x.form(word)));
            StringBuilder b = new StringBuilder();
            for (int what = 0; what < 6; what++) {
                b.append(x.word(word, what)).append(" ");
            }
            all.put(ahead + "word " + word, b.toString());
            all.put(ahead + "loses " + word, "" + x.loses(word));
            all.put(ahead + "chain " + word, letters(x.chain(word, 1)) + " " + letters(x.chain(word, 2)) + " " + letters(x.chain(word, 3)));
            for (int speaker = 0; speaker < x.told(2); speaker++) {
                all.put(ahead + "knows " + speaker + " " + word, letters(x.knows(speaker, word)));
            }
        }
    }

    /** A call that answers so, and behind which only parts that match may be others, and some of them are. */
    private static void changes(String call, long want, Call c, String mayChange) {
        WornWords x = rich();
        given(x, call, c.on(x), want);
        Map<String, String> got = parts(x);
        Map<String, String> ahead = parts(rich());
        boolean changed = false;
        for (String part : got.keySet()) {
            boolean same = got.get(part).equals(ahead.get(part));
            changed = changed || !same;
            if (!same && !part.matches(mayChange)) {
                complain("behind " + call + " there is " + part + ": " + got.get(part) + ", due is " + ahead.get(part));
            }
        }
        for (String part : ahead.keySet()) {
            changed = changed || !got.containsKey(part);
            if (!got.containsKey(part) && !part.matches(mayChange)) {
                complain("behind " + call + " there is no " + part);
            }
        }
        due(call + " changes what is asked", changed, !mayChange.isEmpty());
    }

    private static void asks(String call, long want, Call c) {
        changes(call, want, c, "");
    }

    private static void asking() {
        promise = "13 to 27, 30, 31, 35, 36, 39, 40, 42, 44: a call that asks changes nothing";
        long[] told = {3, 4, 3, 3, 3, 3};
        for (int what = 0; what < 6; what++) {
            int w = what;
            asks("told(" + w + ")", told[w], x -> x.told(w));
        }
        long[] word = {4, 1, 1, 3, 1, 5};
        for (int what = 0; what < 6; what++) {
            int w = what;
            asks("word(0, " + w + ")", word[w], x -> x.word(0, w));
        }
        asks("read(1, 1)", number("ton"), x -> x.read(1, 1));
        asks("form(0)", number("ston"), x -> x.form(0));
        asks("form(3)", 0, x -> x.form(3));
        asks("words(1)", 6, x -> x.words(1));
        asks("loses(2)", 2, x -> x.loses(2));
        asks("chain(2, 3)", number("t"), x -> x.chain(2, 3));
        asks("chain(2, 39)", 0, x -> x.chain(2, 39));
        asks("life(0)", 4, x -> x.life(0));
        asks("common(0, 2)", 3, x -> x.common(0, 2));
        asks("rhymes(2, 1)", 2, x -> x.rhymes(2, 1));
        asks("lone()", 0, x -> x.lone());
        asks("mute()", 4, x -> x.mute());
        asks("lasts(0)", 8, x -> x.lasts(0));
        asks("spread(0)", 1, x -> x.spread(0));
        asks("wintry()", 1, x -> x.wintry());
        asks("follows(2, 0)", 1, x -> x.follows(2, 0));
        asks("knows(1, 0)", number("stone"), x -> x.knows(1, 0));
        asks("bestCut(0, 2, 2)", 8, x -> x.bestCut(0, 2, 2));
        asks("ways(0, 2)", 4, x -> x.ways(0, 2));
        asks("howFar(0, 3)", 3, x -> x.howFar(0, 3));
        asks("fewestAt(1)", 1, x -> x.fewestAt(1));
        asks("cheap(0)", 0, x -> x.cheap(0));
        asks("readings(1, 1)", 1, x -> x.readings(1, 1));
        asks("gossiped(0)", 3, x -> x.gossiped(0));
    }

    private static void telling() {
        promise = "37, 43, 45: a call that tells of a STORY or of GOSSIP changes what it tells alone";
        changes("fewest(0, 1)", 1, x -> x.fewest(0, 1), "fewestAt \\d");
        changes("fewest(0, 3)", 3, x -> x.fewest(0, 3), "fewestAt \\d");
        changes("gossip(1, 60)", rich().gossip(1, 60), x -> x.gossip(1, 60), "gossiped \\d");
        changes("odds(7, 20, 60)", 1, x -> x.odds(7, 20, 60) ? 1 : 0, "fraction");
    }

    private static void traysAndTexts() {
        promise = "5, 6, 8, 9, 11";
        changes("tray(0, 0, 2)", 1, x -> x.tray(0, 0, 2) ? 1 : 0, "tray 0");
        changes("tray(3, 2, 0)", 1, x -> x.tray(3, 2, 0) ? 1 : 0, "tray 3");
        changes("write(1, 2, 9)", 1, x -> x.write(1, 2, 9) ? 1 : 0, "tray 1");
        changes("pour(2, 0, 0, 1, 2)", 1, x -> x.pour(2, 0, 0, 1, 2) ? 1 : 0, "tray 0");
        changes("pour(0, 0, 0, 1, 2)", 1, x -> x.pour(0, 0, 0, 1, 2) ? 1 : 0, "tray 0");
        // feed() has no STATUS: that of village() stays.
        WornWords x = rich();
        due("feed", x.feed(1, 2, 3, 4, 5), 60);
        due("the STATUS of village() stays", x.status(), 9);
        Call law = y -> {
            y.village(0);
            y.back();
            feed(y, "if size>0 drop first;");
            return y.law(21);
        };
        given(x, "law(21)", law.on(x), 1);
        changes("law(0)", 0, y -> y.law(0), "told 3|fault|tape|(loses|chain) .*");
    }

    private static void sayings() {
        promise = "28: a word is SAID to nobody";
        changes("say(0)", 3, x -> x.say(0), OF_WORD + "0|wintry");
        changes("say(1)", 2, x -> x.say(1), OF_WORD + "1|wintry");
        // "tone" loses its n: "toe".
        changes("say(2)", 3, x -> x.say(2), OF_WORD + "2|wintry");
        changes("say(0) and (0)", 2, x -> Math.min(x.say(0), x.say(0)), OF_WORD + "0|wintry");
    }

    private static void tellings() {
        promise = "29: those who hear, and who says it, know it by that FORM; none else does";
        changes("tell(0, 0, 0)", 0, x -> x.tell(0, 0, 0), OF_WORD + "0|wintry|knows 0 0");
        changes("tell(0, 0, 4)", 4, x -> x.tell(0, 0, 4), OF_WORD + "0|wintry|knows [02] 0");
        changes("tell(1, 0, 5)", 5, x -> x.tell(1, 0, 5), OF_WORD + "0|wintry|knows [012] 0");
        changes("tell(2, 2, 2)", 2, x -> x.tell(2, 2, 2), OF_WORD + "2|wintry|knows [12] 2");
    }

    private static void daysAndWinters() {
        promise = "32, 33";
        changes("pass(6)", 9, x -> x.pass(6), "told 4|(loses|chain) .*");
        changes("winter()", 1, x -> x.winter(), OF_WORD + "0|wintry");
    }

    private static void cuts() {
        promise = "34: both are said then (to nobody); all SPEAKERS know the new one as it is";
        changes("cut(0, 1, 2, 2, 2)", 3, x -> x.cut(0, 1, 2, 2, 2), OF_WORD + "[023]|told 5|wintry|knows \\d 3");
        changes("cut(1, 1, 1, 1, 0)", 3, x -> x.cut(1, 1, 1, 1, 0), OF_WORD + "[13]|told 5|wintry|knows \\d 3");
    }

    private static void stories() {
        promise = "41: a STORY is TOLD (to nobody), each by its CHEAP word";
        changes("story(0, 1)", 1, x -> x.story(0, 1), OF_WORD + "0|wintry");
        changes("story(0, 3)", 3, x -> x.story(0, 3), OF_WORD + "[012]|wintry");
    }

    private static void marks() {
        promise = "46, 47: the VILLAGE with all that became of it, and the LAW; nothing else";
        changes("mark()", 3, x -> x.mark(), "mark 2.*");
        String village = "(told|form|word|loses|chain|knows) .*|wintry";
        changes("back()", 1, x -> x.back(), village + "|mark 1.*");
        changes("mark() and back()", 2, x -> {
            x.mark();
            x.say(0);
            x.pass(3);
            law(x, "");
            return x.back();
        }, "fault|tape");
        promise = "46, 47: MARKS are kept as they are, three of them";
        WornWords x = rich();
        x.mark();
        x.say(0);
        Map<String, String> due = parts(x);
        x = rich();
        x.mark();
        x.say(0);
        x.lasts(0);
        x.wintry();
        x.bestCut(0, 2, 0);
        x.ways(0, 3);
        x.fewest(0, 2);
        x.howFar(0, 3);
        refused(x, "a STORY that can't be told", x.story(1, 2), 5);
        x.readings(1, 1);
        x.gossip(5, 3);
        x.odds(3, 20, 60);
        given(x, "a VILLAGE of nothing", x.village(0), 0);
        x.law(0);
        Map<String, String> got = parts(x);
        for (String part : due.keySet()) {
            if (part.startsWith("mark ")) {
                due(part + ", " + got.get(part) + ", as ahead", due.get(part).equals(got.get(part)), true);
            }
        }
        due("three MARKS", got.containsKey("mark 2"), true);
    }

    private static void villages() {
        promise = "10: in place of that ahead; MARKS, TRAYS and what was told stay";
        String village = "(told|form|word|loses|chain|knows) .*|wintry";
        changes("village(36)", 1, x -> x.village(36), village + "|fault|tape");
        changes("village(0)", 0, x -> x.village(0), village + "|fault|tape");
        promise = "10, 11: 9: the old one stays, but the tape, and what fault() tells";
        WornWords x = rich();
        refused(x, "village(35)", x.village(35), 9);
        WornWords y = rich();
        refused(y, "law(36)", y.law(36), 9);
        for (WornWords z : new WornWords[] {x, y}) {
            Map<String, String> got = parts(z);
            Map<String, String> ahead = parts(rich());
            for (String part : ahead.keySet()) {
                if (!part.matches("fault|tape")) {
                    due("behind a FAULT as ahead: " + part, ahead.get(part).equals(got.get(part)), true);
                }
            }
        }
    }
}
