import java.util.ArrayList;
import java.util.List;

/** What the tests of the project share: answers that are due, texts as calls of feed(), and all that an object can be asked. */
class Checks {
    /** A call, its answer as a long (a boolean counts 1 or 0). */
    interface Call {
        long on(WornWords x);
    }

    /** Makes an object, the same one each time. */
    interface Made {
        WornWords make();
    }

    static int wrong = 0;
    /** The sentence of the document that is tested, told with each wrong answer. */
    static String promise = "";

    static void end(String well) {
        System.out.println(wrong == 0 ? well : wrong + " answers are not as due");
        if (wrong != 0) {
            System.exit(1);
        }
    }

    static void complain(String what) {
        wrong++;
        System.out.println("promise " + promise + ": " + what);
    }

    static void due(String call, long got, long want) {
        if (got != want) {
            complain(call + " answered " + got + ", due is " + want);
        }
    }

    static void due(String call, boolean got, boolean want) {
        due(call, got ? 1 : 0, want ? 1 : 0);
    }

    /** An answer NONE with a STATUS. */
    static void refused(WornWords x, String call, long got, int status) {
        due(call, got, -1);
        due(call + ": status", x.status(), status);
    }

    static void refused(WornWords x, String call, boolean got, int status) {
        due(call, got, false);
        due(call + ": status", x.status(), status);
    }

    /** An answer with STATUS 0. */
    static void given(WornWords x, String call, long got, long want) {
        due(call, got, want);
        due(call + ": status", x.status(), 0);
    }

    static void given(WornWords x, String call, boolean got) {
        due(call, got, true);
        due(call + ": status", x.status(), 0);
    }

    static void feed(WornWords x, String text) {
        for (int k = 0; k < text.length(); k += 20) {
            int[] five = new int[5];
            for (int b = 0; b < 20; b++) {
                five[b / 4] = five[b / 4] << 8 | (k + b < text.length() ? text.charAt(k + b) : 0);
            }
            x.feed(five[0], five[1], five[2], five[3], five[4]);
        }
    }

    static int village(WornWords x, String text) {
        feed(x, text);
        return x.village(text.length());
    }

    static int law(WornWords x, String text) {
        feed(x, text);
        return x.law(text.length());
    }

    static WornWords with(String village, String law) {
        WornWords x = new WornWords();
        due("village " + village + " is taken", village(x, village) >= 0, true);
        due("law " + law + " is taken", law(x, law) >= 0, true);
        return x;
    }

    static WornWords with(String village) {
        return with(village, "");
    }

    /** An object after so many sayings of a word. */
    static WornWords said(WornWords x, int word, int times) {
        for (int k = 0; k < times; k++) {
            x.say(word);
        }
        return x;
    }

    /** An object on a DAY. */
    static WornWords onDay(WornWords x, int day) {
        int left = day - x.told(4);
        while (left > 0) {
            int days = Math.min(left, 99);
            x.pass(days);
            left -= days;
        }
        return x;
    }

    static void row(WornWords x, int tray, long... numbers) {
        x.tray(tray, 3, numbers.length);
        for (int k = 0; k < numbers.length; k++) {
            x.write(tray, k, numbers[k]);
        }
    }

    static String twelve(String ahead, String behind) {
        StringBuilder b = new StringBuilder();
        for (char c = 'a'; c <= 'l'; c++) {
            b.append(ahead).append(c).append(behind).append(";");
        }
        return b.toString();
    }

    static long number(String letters) {
        long n = 0;
        for (char c : letters.toCharArray()) {
            n = n * 32 + c - 'a' + 1;
        }
        return n;
    }

    static String letters(long number) {
        return number <= 0 ? "" : letters(number / 32) + (char) ('a' + number % 32 - 1);
    }

    static void isForm(WornWords x, int word, String want) {
        long got = x.form(word);
        if (got != number(want)) {
            complain("form(" + word + ") is '" + letters(got) + "', due is '" + want + "'");
        }
    }

    /** A call that answers NONE with a STATUS, and leaves all as it was. */
    static void refuses(Made made, int status, String call, Call c) {
        refuses(made, status, call, c, -1);
    }

    /** A call that answers false with a STATUS, and leaves all as it was. */
    static void refusesFlag(Made made, int status, String call, Call c) {
        refuses(made, status, call, c, 0);
    }

    private static void refuses(Made made, int status, String call, Call c, long want) {
        WornWords x = made.make();
        due(call, c.on(x), want);
        due(call + ": status", x.status(), status);
        same(call + " is refused", everything(x, true), everything(made.make(), true));
    }

    /** A call with STATUS 0 that leaves all as it was. */
    static void leaves(Made made, String call, long want, Call c) {
        WornWords x = made.make();
        given(x, call, c.on(x), want);
        same(call + " only asks", everything(x, true), everything(made.make(), true));
    }

    static void same(String behind, List<String> got, List<String> want) {
        for (int k = 0; k < Math.max(got.size(), want.size()); k++) {
            String one = k < got.size() ? got.get(k) : "nothing";
            String other = k < want.size() ? want.get(k) : "nothing";
            if (!one.equals(other)) {
                complain("behind " + behind + " there is " + one + ", due is " + other);
                return;
            }
        }
    }

    /** All that an object can be asked, with or without its tape and its FAULT; the object is used up by that. */
    static List<String> everything(WornWords x, boolean withTexts) {
        List<String> all = new ArrayList<>();
        all.add("top " + x.top() + " bottom " + x.bottom());
        if (withTexts) {
            all.add("fault " + x.fault(0) + " at " + x.fault(1));
        }
        addTrays(x, all);
        addVillage(x, all);
        for (int k = 0; k <= 5; k++) {
            all.add("fewestAt(" + k + ") " + x.fewestAt(k));
        }
        for (int what = 0; what < 4; what++) {
            all.add("gossiped(" + what + ") " + x.gossiped(what));
        }
        all.add("wintry " + x.wintry());
        all.add("winter " + x.winter());
        all.add("then wintry " + x.wintry());
        for (int left = x.back(); left >= 0; left = x.back()) {
            all.add("back() " + left);
            addVillage(x, all);
        }
        if (withTexts) {
            int taped = x.feed(0, 0, 0, 0, 0);
            all.add("tape " + taped);
            x.village(taped >= 20 ? taped - 20 : 0);
            all.add("of the tape " + x.fault(0) + " " + x.fault(1) + " " + x.told(0) + " " + x.told(1) + " " + x.form(0));
        }
        return all;
    }

    private static void addTrays(WornWords x, List<String> all) {
        for (int tray = 0; tray < 4; tray++) {
            int place = 0;
            for (long v = x.read(tray, 0); x.status() == 0; v = x.read(tray, place)) {
                all.add("tray " + tray + " place " + place + " has " + v);
                place++;
            }
            all.add("tray " + tray + " ends at " + place + " with status " + x.status());
            if (x.write(tray, 0, 0x7BCDEF81A2B3C4D5L)) {
                all.add("tray " + tray + " cuts to " + x.read(tray, 0));
            }
        }
    }

    private static void addVillage(WornWords x, List<String> all) {
        int words = x.told(1);
        int speakers = x.told(2);
        for (int what = 0; what < 6; what++) {
            all.add("told(" + what + ") " + x.told(what));
        }
        for (int word = 0; word < words; word++) {
            StringBuilder b = new StringBuilder().append("word ").append(word).append(": ").append(x.form(word));
            for (int what = 0; what < 6; what++) {
                b.append(" ").append(x.word(word, what));
            }
            for (int speaker = 0; speaker < speakers; speaker++) {
                b.append(" known as ").append(x.knows(speaker, word));
            }
            all.add(b.append(" chain ").append(x.chain(word, 1)).append(" ").append(x.chain(word, 2)).toString());
        }
    }
}
