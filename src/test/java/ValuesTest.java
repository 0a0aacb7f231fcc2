/** Promises 33 to 35: VALUES told on days, and the counts. */
public final class ValuesTest {
    private static final Harness H = new Harness();

    public static void main(String[] args) {
        telling();
        orderOfAnswers();
        sixty();
        known();
        counts();
        H.finish();
    }

    private static ScribeBlocks listed() {
        ScribeBlocks x = new ScribeBlocks();
        Harness.list(x, "sign a 1 1 sounds abc; sign b 1 1; sign i 1 1 means t; sign k 1 1 kind k;");
        H.due("list", x.rule(0), 4);
        return x;
    }

    private static void telling() {
        H.part("promise 33");
        ScribeBlocks x = listed();
        H.due("one", Harness.value(x, "a", 0, 0, 0), 1);
        H.due("blanks", Harness.value(x, " pon\n", 3, 999, 0), 2);
        String[] wrong = {"", "abcd", "q", "aq", "a b", "a;", "5", "A", "abcdefghijklm"};
        for (String row : wrong) {
            H.due("value " + row, Harness.value(x, row, 0, 0, 999), -1);
        }
        H.due("what is none leaves the day", Harness.value(x, "ab", 0, 0, 500), 3);
        H.due("below the latest", Harness.value(x, "a", 0, 0, 499), -2);
        H.due("the latest", Harness.value(x, "a", 0, 999, 500), 4);
        H.due("999", Harness.value(x, "a", 0, 0, 999), 5);
        H.due("VALUES", x.count(6), 5);
        H.due("THE LIST stays", x.sign(0, 3), 3);
    }

    private static void orderOfAnswers() {
        H.part("RANGE, NONE, FULL");
        ScribeBlocks x = listed();
        int[] signs = {-1, 4, 40, Integer.MIN_VALUE, Integer.MAX_VALUE};
        for (int s : signs) {
            H.due("SIGN " + s, Harness.value(x, "a", s, 0, 0), -2);
            H.due("SIGN " + s, x.valueOn(s, 0, 0, 0), -2);
        }
        int[] days = {-1, 1000, Integer.MIN_VALUE, Integer.MAX_VALUE};
        for (int day : days) {
            H.due("from " + day, Harness.value(x, "a", 0, day, 0), -2);
            H.due("day " + day, Harness.value(x, "a", 0, 0, day), -2);
            H.due("day " + day, x.valueOn(0, day, 0, 0), -2);
            H.due("known " + day, x.valueOn(0, 0, day, 0), -2);
        }
        H.due("RANGE ahead of NONE", Harness.value(x, "", 9, 0, 0), -2);
        H.due("VALUES", x.count(6), 0);
        H.due("RANGE leaves the day", Harness.value(x, "a", 9, 0, 700), -2);
        H.due("a day", Harness.value(x, "a", 0, 0, 1), 1);
    }

    private static void sixty() {
        H.part("60 VALUES");
        ScribeBlocks x = listed();
        for (int v = 1; v <= 60; v++) {
            H.due("value " + v, Harness.value(x, "" + (char) ('a' + v % 16), 1, v, v), v);
        }
        H.due("the 61st", Harness.value(x, "a", 0, 0, 60), -3);
        H.due("the tape is empty", x.count(7), 0);
        H.due("NONE ahead of FULL", Harness.value(x, "q", 0, 0, 60), -1);
        H.due("RANGE ahead of FULL", Harness.value(x, "a", 0, 0, 59), -2);
        H.due("FULL leaves the day", Harness.value(x, "a", 0, 0, 900), -3);
        H.due("FULL leaves the day", Harness.value(x, "a", 0, 0, 60), -3);
        for (int day = 1; day <= 60; day++) {
            H.due("on " + day, x.valueOn(1, day, 60, 10), day % 16);
            H.due("on the last, known on " + day, x.valueOn(1, 999, day, 10), day % 16);
        }
        H.due("VALUES", x.count(6), 60);
    }

    private static void dueOn(ScribeBlocks x, int s, int day, int known, String row) {
        String call = "valueOn(" + s + ", " + day + ", " + known;
        H.due(call + ", 0)", x.valueOn(s, day, known, 0), row.length());
        for (int i = 0; i < row.length(); i++) {
            H.due(call + ", " + (10 + i) + ")", x.valueOn(s, day, known, 10 + i), row.charAt(i) - 'a');
        }
        H.due(call + ", behind)", x.valueOn(s, day, known, 10 + row.length()), -1);
    }

    private static void known() {
        H.part("promise 34");
        ScribeBlocks x = listed();
        dueOn(x, 0, 0, 0, "abc");
        dueOn(x, 1, 0, 0, "");
        dueOn(x, 2, 0, 0, "");
        dueOn(x, 3, 999, 999, "");
        int[] whats = {-1, 1, 9, 13, Integer.MIN_VALUE, Integer.MAX_VALUE};
        for (int what : whats) {
            H.due("what " + what, x.valueOn(0, 0, 0, what), -1);
        }
        Harness.value(x, "d", 0, 10, 5);
        Harness.value(x, "ef", 0, 8, 6);
        Harness.value(x, "g", 0, 10, 7);
        Harness.value(x, "h", 0, 10, 7);
        Harness.value(x, "pop", 2, 0, 8);
        dueOn(x, 0, 9, 4, "abc");
        dueOn(x, 0, 10, 4, "abc");
        dueOn(x, 0, 10, 5, "d");
        dueOn(x, 0, 9, 5, "abc");
        dueOn(x, 0, 9, 6, "ef");
        dueOn(x, 0, 8, 6, "ef");
        dueOn(x, 0, 7, 6, "abc");
        // the latest first day, though the other was told later
        dueOn(x, 0, 10, 6, "d");
        // of one day that told last
        dueOn(x, 0, 10, 7, "h");
        dueOn(x, 0, 999, 999, "h");
        dueOn(x, 0, 9, 999, "ef");
        dueOn(x, 2, 0, 8, "pop");
        dueOn(x, 2, 0, 7, "");
        dueOn(x, 1, 999, 999, "");
    }

    private static void counts() {
        H.part("promise 35");
        ScribeBlocks x = listed();
        Harness.term(x, "t a");
        Harness.term(x, "s a");
        Harness.blocks(x, "a*b&i-k-a");
        Harness.write(x, "a a a a a a");
        for (int i = 0; i < 7; i++) {
            x.say(0);
        }
        for (int v = 0; v < 8; v++) {
            Harness.value(x, "a", 0, 0, 0);
        }
        Harness.tape(x, "nine byte");
        int[] want = {4, 2, 3, 5, 6, 7, 8, 9};
        for (int what = 0; what < want.length; what++) {
            H.due("count(" + what + ")", x.count(what), want[what]);
        }
        int[] others = {-1, 8, 10, Integer.MIN_VALUE, Integer.MAX_VALUE};
        for (int what : others) {
            H.due("count(" + what + ")", x.count(what), -1);
        }
    }
}
