/** Promises 18 to 26: the row that is WRITTEN, its WAYS, and how it is GROUPED. */
public final class RowsTest {
    private static final Harness H = new Harness();

    public static void main(String[] args) {
        writing();
        ways();
        thousandMillion();
        waysOn();
        reading();
        whatStaysRead();
        spelling();
        grouping();
        whatStaysGrouped();
        H.finish();
    }

    private static ScribeBlocks listed(String text, String... terms) {
        ScribeBlocks x = new ScribeBlocks();
        Harness.list(x, text);
        H.due("list " + text, x.fault(0), 0);
        for (int t = 0; t < terms.length; t++) {
            H.due("term " + terms[t], Harness.term(x, terms[t]), t);
        }
        return x;
    }

    private static String times(String what, int many) {
        return (what + " ").repeat(many);
    }

    private static void writing() {
        H.part("promises 18 and 19");
        ScribeBlocks x = listed("sign a 1 1; sign bc 1 1;");
        H.due("written(0)", x.written(0), -1);
        H.due("two", Harness.write(x, " bc\na "), 2);
        H.due("written(0)", x.written(0), 1);
        H.due("written(1)", x.written(1), 0);
        int[] none = {-1, 2, 24, Integer.MIN_VALUE, Integer.MAX_VALUE};
        for (int i : none) {
            H.due("written(" + i + ")", x.written(i), -1);
        }
        String[] wrong = {"", " ", "a b", "a-bc", "a 5", "A", "abc", "a a;", "abcdefghijklm", times("a", 25)};
        for (String text : wrong) {
            H.due("write " + text, Harness.write(x, text), -1);
            H.due("the one ahead stays", x.count(4), 2);
            H.due("the one ahead stays", x.written(0), 1);
        }
        H.due("24", Harness.write(x, times("a", 24)), 24);
        H.due("written(23)", x.written(23), 0);
        H.due("written(24)", x.written(24), -1);
        H.due("one", Harness.write(x, "bc"), 1);
        H.due("written(1)", x.written(1), -1);
    }

    private static void dueWays(ScribeBlocks x, String row, int ways) {
        Harness.write(x, row);
        H.due("ways of " + row, x.ways(), ways);
        H.due("waysOn of " + row, x.waysOn(0, 0), ways);
    }

    private static void ways() {
        H.part("promise 20");
        ScribeBlocks x = listed("sign a 1 1 sounds a; sign b 1 1 sounds b; sign x 1 1 sounds ab; sign i 1 1 means s;"
                + "sign k 1 1 kind k;", "r a", "s ab", "t a", "u b", "v aa k");
        H.due("none WRITTEN", x.ways(), -4);
        dueWays(x, "a", 2);
        dueWays(x, "a b", 2 + 1);
        dueWays(x, "x", 1);
        dueWays(x, "x b", 1 + 1);
        dueWays(x, "x b b", 1 + 1);
        dueWays(x, "i", 1);
        dueWays(x, "i b", 2);
        dueWays(x, "i x", 1 + 1);
        dueWays(x, "a a k", 1);
        dueWays(x, "a a", 4);
        dueWays(x, "k", 0);
        dueWays(x, "k a", 0);
        dueWays(x, "a k", 0);
        dueWays(x, times("a", 24), 1 << 24);
    }

    private static void thousandMillion() {
        H.part("1000000000 WAYS");
        String[] ten = new String[10];
        for (int t = 0; t < 10; t++) {
            ten[t] = ListTest.name(t) + " a";
        }
        ScribeBlocks x = listed("sign a 1 1 sounds a; sign b 1 1 sounds b;", ten);
        dueWays(x, times("a", 9), 1000000000);
        dueWays(x, times("a", 10), -3);
        dueWays(x, times("a", 24), -3);
        dueWays(x, times("a", 23) + "b", 0);
        dueWays(x, "b " + times("a", 23), 0);
        Harness.term(x, "more aaaaaaaa");
        // with it 10 WAYS more for eight behind or ahead of one; each is 10
        dueWays(x, times("a", 9), -3);
        Harness.term(x, "other b");
        dueWays(x, times("a", 8) + "b", 100000001);
    }

    private static void waysOn() {
        H.part("promise 21");
        ScribeBlocks x = listed("sign a 1 1 sounds a; sign i 1 1 means s; sign k 1 1 kind k;", "r a", "s b", "t c k");
        H.due("RANGE ahead of STATE", x.waysOn(1000, 0), -2);
        H.due("STATE", x.waysOn(0, 0), -4);
        Harness.write(x, "a");
        H.due("day -1", x.waysOn(-1, 0), -2);
        H.due("known -1", x.waysOn(0, -1), -2);
        H.due("day 1000", x.waysOn(1000, 0), -2);
        H.due("known 1000", x.waysOn(0, 1000), -2);
        H.due("min", x.waysOn(Integer.MIN_VALUE, 0), -2);
        H.due("max", x.waysOn(0, Integer.MAX_VALUE), -2);
        H.due("999", x.waysOn(999, 999), 1);
        Harness.value(x, "c", 0, 5, 10);
        H.due("a is c: no KIND", x.waysOn(5, 10), 0);
        H.due("ahead of the day", x.waysOn(4, 10), 1);
        H.due("not known yet", x.waysOn(5, 9), 1);
        H.due("ways", x.ways(), 1);
        H.due("read", x.read(), 1);
        Harness.write(x, "a k");
        H.due("with a KIND", x.waysOn(5, 10), 1);
        H.due("without", x.waysOn(4, 10), 0);
        Harness.write(x, "i");
        H.due("an IDEA", x.waysOn(5, 20), 1);
        Harness.value(x, "a", 1, 7, 20);
        H.due("an IDEA no more: another TERM", x.waysOn(7, 20), 1);
        Harness.value(x, "d", 1, 8, 20);
        H.due("none", x.waysOn(8, 20), 0);
        H.due("still", x.waysOn(7, 20), 1);
        Harness.write(x, "a k");
        Harness.value(x, "b", 2, 9, 21);
        H.due("a KIND no more", x.waysOn(9, 21), 0);
        H.due("a KIND still", x.waysOn(9, 20), 1);
        H.due("THE LIST stays", x.sign(2, 2), 3);
    }

    private static void dueRead(ScribeBlocks x, String row, int... pieces) {
        Harness.write(x, row);
        int many = pieces.length / 2;
        H.due("read " + row, x.read(), many == 0 ? -1 : many);
        for (int i = 0; i < many; i++) {
            H.due("TERM " + i + " of " + row, x.readTerm(i, 0), pieces[2 * i]);
            H.due("length " + i + " of " + row, x.readTerm(i, 1), pieces[2 * i + 1]);
        }
        H.due("behind", x.readTerm(many, 0), -1);
        H.due("behind", x.readTerm(many, 1), -1);
    }

    private static void reading() {
        H.part("promises 22 and 23");
        ScribeBlocks x = listed("sign a 1 1 sounds a; sign b 1 1 sounds b; sign c 1 1 sounds c;",
                "p a", "q aa", "r a", "s ab", "t b", "u aab", "v c");
        H.due("STATE", x.read(), -4);
        dueRead(x, "a", 0, 1);
        dueRead(x, "a a", 1, 2);
        dueRead(x, "a b", 3, 2);
        dueRead(x, "a a b", 5, 3);
        dueRead(x, "b", 4, 1);
        // three: the least row of TERMS is p q, not q p
        dueRead(x, "a a a", 0, 1, 1, 2);
        dueRead(x, "a a a b", 0, 1, 5, 3);
        dueRead(x, "c a b c", 6, 1, 3, 2, 6, 1);
        Harness.write(x, "a");
        x.read();
        int[] none = {-1, 1, 24, Integer.MIN_VALUE, Integer.MAX_VALUE};
        for (int i : none) {
            H.due("readTerm(" + i + ", 0)", x.readTerm(i, 0), -1);
            H.due("readTerm(0, " + (i == 1 ? 2 : i) + ")", x.readTerm(0, i == 1 ? 2 : i), -1);
        }
        // one row of TERMS, several rows of lengths: m, spelled x or x b; n, b b or b
        x = listed("sign x 1 1 sounds ab; sign b 1 1 sounds b; sign y 1 1 sounds bb; sign i 1 1 means n;",
                "m ab", "n bb");
        dueRead(x, "x b b b", 0, 2, 1, 2);
        dueRead(x, "x y b", 0, 1, 1, 2);
        x = listed("sign x 1 1 sounds ab; sign b 1 1 sounds b; sign y 1 1 sounds cb; sign c 1 1 sounds c;",
                "m ab", "n cb", "o b", "l bcb");
        // x b y b: m l by x, b y b; and m n by x b, y b; the first is less by TERMS only in its end
        dueRead(x, "x b y b", 0, 2, 1, 2);
        Harness.write(x, "x c");
        H.due("none", x.read(), -1);
        H.due("none", x.readTerm(0, 0), -1);
        // TERMS alike: n n n in two rows of lengths, the least of them
        x = listed("sign x 1 1 means n; sign b 1 1 sounds b; sign k 1 1 means m;", "n b", "m b");
        dueRead(x, "x b x", 0, 2, 0, 1);
        x = listed("sign i 1 1 means n; sign j 1 1 sounds b; sign b 1 1 means n; sign c 1 1 sounds b;", "n b");
        dueRead(x, "i j b c", 0, 2, 0, 2);
    }

    private static void whatStaysRead() {
        H.part("what of read() stays");
        ScribeBlocks x = listed("sign a 1 1 sounds a; sign b 1 1 sounds b;", "p a");
        Harness.write(x, "a a");
        H.due("read", x.read(), 2);
        Harness.write(x, "oh");
        H.due("none was WRITTEN", x.readTerm(1, 1), 1);
        Harness.term(x, "q aa");
        H.due("a TERM", x.readTerm(1, 1), 1);
        H.due("ways", x.ways(), 2);
        H.due("still", x.readTerm(1, 1), 1);
        Harness.list(x, "oh");
        H.due("no LIST", x.readTerm(1, 1), 1);
        Harness.write(x, "a a");
        H.due("the same was WRITTEN", x.readTerm(0, 0), -1);
        H.due("read", x.read(), 1);
        Harness.write(x, "b");
        H.due("read", x.read(), -1);
        H.due("none", x.readTerm(0, 0), -1);
        Harness.write(x, "a a");
        x.read();
        Harness.list(x, "sign a 1 1 sounds a;");
        H.due("a LIST", x.readTerm(0, 0), -1);
        H.due("read", x.read(), -4);
    }

    private static void spelling() {
        H.part("promise 24");
        ScribeBlocks x = listed("sign a 1 1 sounds a; sign b 1 1 sounds b; sign i 1 1 means q; sign k 1 1 kind k;",
                "p a", "q ab k", "r abababab");
        H.due("STATE", x.spells(0), -4);
        H.due("RANGE ahead of STATE", x.spells(3), -2);
        Harness.write(x, "a");
        H.due("p", x.spells(0), 1);
        H.due("q", x.spells(1), 0);
        int[] wrong = {-1, 3, Integer.MIN_VALUE, Integer.MAX_VALUE};
        for (int t : wrong) {
            H.due("spells(" + t + ")", x.spells(t), -2);
        }
        String[] right = {"a b k", "i k", "i b k"};
        for (String row : right) {
            Harness.write(x, row);
            H.due(row, x.spells(1), 1);
        }
        String[] not = {"a b", "i", "k", "i k k", "i a k", "k i", "i i k", "a b b k", "b a k", "i b b k", "a k b"};
        for (String row : not) {
            Harness.write(x, row);
            H.due(row, x.spells(1), 0);
        }
        Harness.write(x, times("a b", 4));
        H.due("eight", x.spells(2), 1);
        Harness.write(x, times("a b", 4) + "a");
        H.due("nine", x.spells(2), 0);
        Harness.write(x, times("a b", 12));
        H.due("24", x.spells(2), 0);
        H.due("24 in three", x.ways(), 1);
    }

    private static void dueGroup(ScribeBlocks x, String row, int... groups) {
        Harness.write(x, row);
        int many = groups.length / 2;
        H.due("group " + row, x.group(), many == 0 ? -1 : many);
        for (int i = 0; i < many; i++) {
            H.due("SHAPE " + i + " of " + row, x.grouped(i, 0), groups[2 * i]);
            H.due("PERCENT " + i + " of " + row, x.grouped(i, 1), groups[2 * i + 1]);
        }
        H.due("behind", x.grouped(many, 0), -1);
    }

    private static void grouping() {
        H.part("promises 25 and 26");
        ScribeBlocks x = listed("sign a 5 5; sign w 20 5; sign h 5 20; sign z 60 60; gap 1; square 20; least 90;");
        H.due("STATE", x.group(), -4);
        dueGroup(x, "a", 0, 100);
        dueGroup(x, "a a", 1, 100);
        dueGroup(x, "a a a", 3, 100);
        dueGroup(x, "a a a a", 9, 100);
        dueGroup(x, "w w", 2, 100);
        dueGroup(x, "w w w", 4, 100);
        dueGroup(x, "h h", 1, 100);
        dueGroup(x, "h a a", 3, 100);
        dueGroup(x, "a a h", 3, 100);
        dueGroup(x, "w a a", 4, 100);
        dueGroup(x, "h w", 0, 100, 0, 100);
        dueGroup(x, "w a a a", 0, 100, 3, 100);
        dueGroup(x, "z");
        dueGroup(x, "a z a");
        // the fewest; then the greatest sum; then the least row: 4 and 1, 1 and 4, 3 and 2, 2 and 3
        dueGroup(x, "a a a a a", 0, 100, 9, 100);
        dueGroup(x, times("a", 24), 9, 100, 9, 100, 9, 100, 9, 100, 9, 100, 9, 100);
        int[] none = {-1, 6, 24, Integer.MIN_VALUE, Integer.MAX_VALUE};
        for (int i : none) {
            H.due("grouped(" + i + ", 0)", x.grouped(i, 0), -1);
            H.due("grouped(0, " + (i == 6 ? 2 : i) + ")", x.grouped(0, i == 6 ? 2 : i), -1);
        }
        // each SHAPE by SIGNS that fit no lesser one
        x = listed("sign a 9 9; sign w 19 9; sign h 9 19; gap 1; square 19; least 100;");
        dueGroup(x, "a a", 1, 100);
        dueGroup(x, "w w", 2, 100);
        dueGroup(x, "h a a", 5, 100);
        dueGroup(x, "a a h", 6, 100);
        dueGroup(x, "w a a", 7, 100);
        dueGroup(x, "a a w", 8, 100);
        dueGroup(x, "a a a a", 9, 100);
        // over one another by widths that only fit so
        x = listed("sign n 5 9; sign w 13 9; gap 1; square 19; least 100;");
        dueGroup(x, "n w n w", 10, 100);
        dueGroup(x, "n w w n", 10, 100);
        // PERCENT: the greater sum is better
        x = listed("sign a 10 10; gap 0; square 20; least 50;");
        dueGroup(x, "a a a", 5, 100);
        x = listed("sign a 10 10; gap 0; square 10; least 50;");
        dueGroup(x, "a a a a a", 0, 100, 9, 50);
        x = listed("sign a 10 10; gap 0; square 10; least 33;");
        dueGroup(x, "a a a", 5, 50);
        x = listed("sign a 10 10; gap 0; square 10; least 51;");
        dueGroup(x, "a a a", 0, 100, 0, 100, 0, 100);
    }

    private static void whatStaysGrouped() {
        H.part("what of group() stays");
        ScribeBlocks x = listed("sign a 5 5; sign z 60 60;");
        Harness.write(x, "a a");
        H.due("group", x.group(), 1);
        Harness.write(x, "oh");
        H.due("none was WRITTEN", x.grouped(0, 0), 1);
        Harness.list(x, "oh");
        H.due("no LIST", x.grouped(0, 0), 1);
        Harness.write(x, "a a");
        H.due("the same was WRITTEN", x.grouped(0, 0), -1);
        x.group();
        Harness.term(x, "t a");
        x.say(0);
        x.fill(1);
        x.fills();
        H.due("fill", x.grouped(0, 0), 1);
        Harness.write(x, "z z");
        H.due("group", x.group(), -1);
        H.due("none", x.grouped(0, 0), -1);
        Harness.write(x, "a a");
        x.group();
        Harness.list(x, "sign a 5 5;");
        H.due("a LIST", x.grouped(0, 0), -1);
        H.due("group", x.group(), -4);
    }
}
