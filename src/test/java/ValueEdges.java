/** VALUES of days, and the counts: terms V, promises 33 to 35. */
final class ValueEdges {
    private final Edges e;

    ValueEdges(Edges e) {
        this.e = e;
    }

    void all() {
        days();
        knownThen();
        latestFirstDay();
        withoutAny();
        waysByValues();
        value();
        valueRange();
        valueNoneAndFull();
        valueOn();
        valueOnRefused();
        count();
    }

    private static final String LIST = "sign a 1 1 sounds abc; sign b 1 1; sign i 1 1 means t; sign k 1 1 kind k;";

    private void dueOn(ScribeBlocks x, int s, int day, int known, String row) {
        String call = "valueOn(" + s + ", " + day + ", " + known + ", ";
        e.due(call + "0)", x.valueOn(s, day, known, 0), row.length());
        for (int i = 0; i < row.length(); i++) {
            e.due(call + (10 + i) + ")", x.valueOn(s, day, known, 10 + i), row.charAt(i) - 'a');
        }
        e.due(call + "behind)", x.valueOn(s, day, known, 10 + row.length()), -1);
    }

    private void tell(ScribeBlocks x, String row, int s, int from, int day) {
        e.due("told", Harness.value(x, row, s, from, day) > 0 ? 1 : 0, 1);
    }

    // ---- terms V

    private void days() {
        e.says("terms V", "VALUES: on a day (0 .. 999; days of telling never fall) it is told that from a day on a SIGN has"
                + " other SOUNDS (a ROW of 1 .. 3);");
        ScribeBlocks x = e.made(LIST);
        e.due("on day 0, from day 0", Harness.value(x, "p", 1, 0, 0), 1);
        e.due("from day 999", Harness.value(x, "po", 1, 999, 0), 2);
        e.due("on day 5", Harness.value(x, "pon", 1, 500, 5), 3);
        e.due("on day 5 again", Harness.value(x, "a", 0, 0, 5), 4);
        e.due("on day 4", Harness.value(x, "a", 1, 0, 4), -2);
        e.due("another SIGN on day 4", Harness.value(x, "a", 0, 0, 4), -2);
        e.due("on day 999", Harness.value(x, "a", 0, 0, 999), 5);
        e.due("on day 998", Harness.value(x, "a", 0, 0, 998), -2);
        e.due("on day 999 again, from a day long ago", Harness.value(x, "a", 0, 0, 999), 6);
        dueOn(x, 1, 0, 0, "p");
        dueOn(x, 1, 999, 0, "po");
        dueOn(x, 1, 998, 0, "p");
        dueOn(x, 1, 998, 5, "pon");
        dueOn(x, 1, 499, 5, "p");
        e.due("four SOUNDS", Harness.value(x, "abcd", 0, 0, 999), -1);
        e.due("none", Harness.value(x, "", 0, 0, 999), -1);

        e.says("terms V", "at most 60.");
        x = e.made(LIST);
        for (int v = 1; v <= 60; v++) {
            e.due("VALUE " + v, Harness.value(x, "" + (char) ('a' + v % 16), 1, v, v), v);
        }
        e.due("the 61st", Harness.value(x, "a", 1, 61, 61), -3);
        for (int v = 1; v <= 60; v++) {
            dueOn(x, 1, v, 60, "" + (char) ('a' + v % 16));
        }
    }

    private void knownThen() {
        e.says("terms V", "The value of a SIGN for a day, as KNOWN on a day: of those told by then,");
        ScribeBlocks x = e.made(LIST);
        tell(x, "d", 0, 10, 20);
        tell(x, "e", 0, 10, 21);
        dueOn(x, 0, 10, 19, "abc");
        dueOn(x, 0, 10, 20, "d");
        dueOn(x, 0, 10, 21, "e");
        dueOn(x, 0, 10, 999, "e");
        dueOn(x, 0, 10, 0, "abc");
        // told ahead of the day from which it holds, or long behind it
        dueOn(x, 0, 999, 20, "d");
        dueOn(x, 0, 10, 500, "e");

        e.says("terms V", "whose first day isn't behind it,");
        dueOn(x, 0, 9, 999, "abc");
        dueOn(x, 0, 10, 999, "e");
        dueOn(x, 0, 11, 999, "e");
        dueOn(x, 0, 0, 999, "abc");
    }

    private void latestFirstDay() {
        e.says("terms V", "that with the latest first day");
        ScribeBlocks x = e.made(LIST);
        tell(x, "d", 0, 30, 1);
        tell(x, "ef", 0, 20, 2);
        tell(x, "g", 0, 10, 3);
        dueOn(x, 0, 30, 999, "d");
        dueOn(x, 0, 29, 999, "ef");
        dueOn(x, 0, 20, 999, "ef");
        dueOn(x, 0, 19, 999, "g");
        dueOn(x, 0, 10, 999, "g");
        dueOn(x, 0, 9, 999, "abc");
        dueOn(x, 0, 29, 1, "abc");
        dueOn(x, 0, 19, 2, "abc");
        // each SIGN has its own
        dueOn(x, 1, 999, 999, "");

        e.says("terms V", "(of one day that told last);");
        x = e.made(LIST);
        tell(x, "d", 0, 30, 1);
        tell(x, "e", 0, 30, 1);
        tell(x, "f", 0, 30, 2);
        tell(x, "g", 0, 29, 2);
        dueOn(x, 0, 30, 1, "e");
        dueOn(x, 0, 30, 2, "f");
        dueOn(x, 0, 29, 2, "g");
        tell(x, "h", 1, 30, 2);
        dueOn(x, 0, 30, 2, "f");
    }

    private void withoutAny() {
        e.says("terms V", "without: as THE LIST tells.");
        ScribeBlocks x = e.made(LIST);
        dueOn(x, 0, 0, 0, "abc");
        dueOn(x, 0, 999, 999, "abc");
        dueOn(x, 1, 0, 0, "");
        dueOn(x, 2, 0, 0, "");
        dueOn(x, 3, 999, 999, "");
        tell(x, "d", 1, 5, 5);
        dueOn(x, 0, 999, 999, "abc");
        dueOn(x, 1, 4, 5, "");
        dueOn(x, 1, 5, 4, "");
        dueOn(x, 1, 5, 5, "d");
        e.due("THE LIST stays", x.sign(1, 2), 0);
    }

    private void waysByValues() {
        e.says("terms V", "WAYS for a day, as KNOWN on a day: by these values.");
        ScribeBlocks x = e.made("sign a 1 1 sounds a; sign x 1 1 sounds ab; sign i 1 1 means t; sign k 1 1 kind k; sign n 1 1;",
                "s b", "t c", "u a k", "v ab");
        tell(x, "b", 0, 10, 20);
        tell(x, "b", 2, 10, 20);
        tell(x, "b", 3, 10, 20);
        tell(x, "b", 4, 10, 20);
        // day, KNOWN, WAYS of a, of i, of n, of a k, of x a
        int[][] want = {{9, 20, 0, 1, 0, 1, 0}, {10, 19, 0, 1, 0, 1, 0}, {10, 20, 1, 1, 1, 1, 2}, {999, 999, 1, 1, 1, 1, 2}};
        String[] rows = {"a", "i", "n", "a k", "x a"};
        for (int r = 0; r < rows.length; r++) {
            Harness.write(x, rows[r]);
            for (int[] w : want) {
                e.due("waysOn(" + w[0] + ", " + w[1] + ") of " + rows[r], x.waysOn(w[0], w[1]), w[2 + r]);
            }
            e.due("ways of " + rows[r], x.ways(), want[0][2 + r]);
        }
        // i is an IDEA no more: it has a SOUND, so it is a TAIL of none and t isn't spelled by it
        Harness.write(x, "i i");
        e.due("two of t", x.waysOn(9, 20), 1);
        e.due("two of s", x.waysOn(10, 20), 1);
        e.due("t by THE LIST still", x.spells(1), 0);
        Harness.write(x, "i");
        e.due("t by THE LIST still", x.spells(1), 1);
        // the KIND is one no more
        Harness.write(x, "a k");
        e.due("u by THE LIST still", x.spells(2), 1);
        tell(x, "a", 0, 11, 20);
        e.due("a is a, k is b: a v; no u", x.waysOn(11, 20), 1);
        Harness.write(x, "a");
        e.due("a alone", x.waysOn(11, 20), 0);
        // what was asked for one day leaves no trace in another
        e.due("day 10", x.waysOn(10, 20), 1);
        e.due("day 0", x.waysOn(0, 20), 0);
    }

    // ---- promises 33 to 35

    private void value() {
        e.says("promise 33", "THE TAPE is a ROW (1 .. 3 SOUNDS): a VALUE of a SIGN from a day on, told on a day:"
                + " how many there are;");
        ScribeBlocks x = e.made(LIST);
        e.due("one SOUND", Harness.value(x, "p", 3, 7, 8), 1);
        e.due("two", Harness.value(x, "ap", 2, 7, 8), 2);
        e.due("three", Harness.value(x, " pap ", 1, 7, 8), 3);
        e.due("VALUES", x.count(6), 3);
        dueOn(x, 3, 7, 8, "p");
        dueOn(x, 2, 7, 8, "ap");
        dueOn(x, 1, 7, 8, "pap");
    }

    private void valueRange() {
        e.says("promise 33", "RANGE: no such SIGN, days, a day of telling below the latest;");
        ScribeBlocks x = e.made(LIST);
        int[] signs = {-1, 4, 5, 39, 40, Integer.MIN_VALUE, Integer.MAX_VALUE};
        for (int s : signs) {
            e.due("SIGN " + s, Harness.value(x, "a", s, 0, 0), -2);
        }
        int[] days = {-1, 1000, 1001, Integer.MIN_VALUE, Integer.MAX_VALUE};
        for (int day : days) {
            e.due("from " + day, Harness.value(x, "a", 0, day, 0), -2);
            e.due("day " + day, Harness.value(x, "a", 0, 0, day), -2);
        }
        e.due("VALUES", x.count(6), 0);
        e.due("what was refused is no day of telling", Harness.value(x, "a", 0, 999, 3), 1);
        e.due("below the latest", Harness.value(x, "a", 0, 999, 2), -2);
        e.due("the latest", Harness.value(x, "a", 0, 999, 3), 2);
        e.due("refused", Harness.value(x, "a", 4, 0, 900), -2);
        e.due("refused", Harness.value(x, "q", 0, 0, 900), -1);
        e.due("the latest is 3 still", Harness.value(x, "a", 0, 999, 3), 3);
        e.due("RANGE ahead of NONE", Harness.value(x, "q", 4, 0, 3), -2);
        e.due("RANGE ahead of NONE", Harness.value(x, "", 0, 0, 2), -2);
        e.due("no SIGNS", new ScribeBlocks().value(0, 0, 0), -2);
    }

    private void valueNoneAndFull() {
        e.says("promise 33", "NONE: it is none;");
        ScribeBlocks x = e.made(LIST);
        String[] none = {"", " ", "abcd", "abcdefghi", "q", "aq", "abz", "a b", "a;", "1", "a1", "A", "(a)", "a\u00e9",
            "abcdefghijklm"};
        for (String row : none) {
            e.due("'" + row + "'", Harness.value(x, row, 0, 0, 0), -1);
        }
        e.due("an empty TAPE", x.value(0, 0, 0), -1);
        e.due("VALUES", x.count(6), 0);
        dueOn(x, 0, 999, 999, "abc");

        e.says("promise 33", "FULL.");
        for (int v = 1; v <= 60; v++) {
            e.due("VALUE " + v, Harness.value(x, "b", v % 4, 0, 7), v);
        }
        e.due("the 61st", Harness.value(x, "c", 0, 0, 7), -3);
        e.due("any SIGN", Harness.value(x, "c", 3, 0, 7), -3);
        e.due("VALUES", x.count(6), 60);
        dueOn(x, 0, 999, 999, "b");
        e.due("FULL is no day of telling", Harness.value(x, "c", 0, 0, 900), -3);
        e.due("day 7 still", Harness.value(x, "c", 0, 0, 7), -3);
        e.due("NONE ahead of FULL", Harness.value(x, "q", 0, 0, 7), -1);
        e.due("RANGE ahead of FULL", Harness.value(x, "c", 0, 0, 6), -2);
        Harness.list(x, LIST);
        e.due("behind a LIST", Harness.value(x, "c", 0, 0, 0), 1);
    }

    private void valueOn() {
        e.says("promise 34", "The value of a SIGN for a day, as KNOWN on a day, what 0: how many SOUNDS (0: none);"
                + " 10 + i: SOUND i;");
        ScribeBlocks x = e.made(LIST);
        tell(x, "pon", 3, 999, 999);
        dueOn(x, 3, 999, 999, "pon");
        dueOn(x, 3, 998, 999, "");
        dueOn(x, 3, 999, 998, "");
        dueOn(x, 0, 0, 0, "abc");
        tell(x, "b", 0, 0, 999);
        dueOn(x, 0, 0, 999, "b");
        dueOn(x, 0, 999, 998, "abc");

        e.says("promise 34", "NONE: there is none such;");
        e.dueAll("no SOUND", -1, x.valueOn(3, 999, 999, 13), x.valueOn(0, 0, 0, 13), x.valueOn(0, 0, 999, 11),
                x.valueOn(1, 0, 0, 10));
        e.dueAll("no what", -1, x.valueOn(0, 0, 0, 1), x.valueOn(0, 0, 0, 2), x.valueOn(0, 0, 0, 3), x.valueOn(0, 0, 0, 9));
        for (int far : Edges.FAR) {
            e.dueAll("what " + far, -1, x.valueOn(0, 0, 0, far), x.valueOn(3, 999, 999, far));
        }
    }

    private void valueOnRefused() {
        e.says("promise 34", "RANGE: no such SIGN, days.");
        ScribeBlocks x = e.made(LIST);
        int[] signs = {-1, 4, 5, 39, 40, Integer.MIN_VALUE, Integer.MAX_VALUE};
        for (int s : signs) {
            e.dueAll("SIGN " + s, -2, x.valueOn(s, 0, 0, 0), x.valueOn(s, 0, 0, 10));
        }
        int[] days = {-1, 1000, 1001, Integer.MIN_VALUE, Integer.MAX_VALUE};
        for (int day : days) {
            e.dueAll("day " + day, -2, x.valueOn(0, day, 0, 0), x.valueOn(0, 0, day, 0), x.valueOn(0, day, day, 10));
        }
        e.dueAll("0 and 999", 3, x.valueOn(0, 0, 0, 0), x.valueOn(0, 999, 999, 0), x.valueOn(0, 0, 999, 0));
        e.due("no SIGNS", new ScribeBlocks().valueOn(0, 0, 0, 0), -2);
    }

    private void count() {
        e.says("promise 35", "What 0: SIGNS, 1: TERMS, 2: BLOCKS, 3: SIGNS of the BLOCKS, 4: SIGNS of the row that is WRITTEN,"
                + " 5: TERMS of the PASSAGE, 6: VALUES, 7: bytes of THE TAPE.");
        ScribeBlocks x = e.made(LIST, "t a", "s a");
        Harness.blocks(x, "a*b&i-k-a");
        Harness.write(x, "a a a a a a");
        for (int i = 0; i < 7; i++) {
            x.say(0);
        }
        for (int v = 0; v < 8; v++) {
            Harness.value(x, "a", 0, 0, 0);
        }
        Harness.tape(x, "nine byte");
        int[] want = {4, 2, 3, 5, 6, 7, 8, 9};
        for (int what = 0; what < want.length; what++) {
            e.due("count(" + what + ")", x.count(what), want[what]);
        }

        e.says("promise 35", "NONE for others.");
        e.dueAll("8, 9, 10", -1, x.count(8), x.count(9), x.count(10));
        for (int far : Edges.FAR) {
            e.due("count(" + far + ")", x.count(far), -1);
        }
        full();
    }

    private void full() {
        ScribeBlocks x = e.made(Edges.signs(40));
        e.due("40 SIGNS", x.count(0), 40);
        for (int t = 0; t < 40; t++) {
            Harness.term(x, Edges.name(t) + " a");
        }
        e.due("40 TERMS", x.count(1), 40);
        Harness.blocks(x, Edges.times("aa*aa", 12, "-"));
        e.due("12 BLOCKS", x.count(2), 12);
        e.due("24 SIGNS", x.count(3), 24);
        Harness.write(x, Edges.times("aa", 24, " "));
        e.due("24 SIGNS", x.count(4), 24);
        for (int i = 0; i < 13; i++) {
            x.say(0);
        }
        e.due("12 TERMS", x.count(5), 12);
        Harness.tape(x, " ".repeat(800));
        e.due("800 bytes", x.count(7), 800);
    }
}
