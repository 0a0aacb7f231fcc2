/** Rows that are WRITTEN, READ and GROUPED: terms III and IV, promises 18 to 26. */
final class RowEdges {
    private final Edges e;

    RowEdges(Edges e) {
        this.e = e;
    }

    void all() {
        cutInPieces();
        toldByTermAndEnd();
        fewestTerms();
        leastTerms();
        leastLengths();
        shapes();
        allLegible();
        fewestBlocks();
        greatestSum();
        leastShapes();
        noWay();
        write();
        written();
        ways();
        waysOn();
        read();
        readTerm();
        readTermNone();
        spells();
        group();
        grouped();
        groupedNone();
    }

    private void dueWays(ScribeBlocks x, String row, int want) {
        e.due("write " + row, Harness.write(x, row) > 0 ? 1 : 0, 1);
        e.due("ways of " + row, x.ways(), want);
        e.due("waysOn of " + row, x.waysOn(0, 0), want);
    }

    /** Pairs: a TERM and how many SIGNS. */
    private void dueRead(ScribeBlocks x, String row, int... pieces) {
        e.due("write " + row, Harness.write(x, row) > 0 ? 1 : 0, 1);
        int many = pieces.length / 2;
        e.due("read " + row, x.read(), many == 0 ? -1 : many);
        for (int i = 0; i < many; i++) {
            e.due("TERM " + i + " of " + row, x.readTerm(i, 0), pieces[2 * i]);
            e.due("SIGNS " + i + " of " + row, x.readTerm(i, 1), pieces[2 * i + 1]);
        }
        e.due("behind", x.readTerm(many, 0), -1);
    }

    /** Pairs: a SHAPE and its PERCENT. */
    private void dueGroup(ScribeBlocks x, String row, int... groups) {
        e.due("write " + row, Harness.write(x, row) > 0 ? 1 : 0, 1);
        int many = groups.length / 2;
        e.due("group " + row, x.group(), many == 0 ? -1 : many);
        for (int i = 0; i < many; i++) {
            e.due("SHAPE " + i + " of " + row, x.grouped(i, 0), groups[2 * i]);
            e.due("PERCENT " + i + " of " + row, x.grouped(i, 1), groups[2 * i + 1]);
        }
        e.due("behind", x.grouped(many, 0), -1);
    }

    private static final String ABC = "sign a 1 1 sounds a; sign b 1 1 sounds b; sign c 1 1 sounds c;";

    // ---- terms III, READ

    private void cutInPieces() {
        e.says("terms III", "READ: a row of SIGNS in WAYS: how it is cut in pieces each of which is a SPELLING of a TERM");
        ScribeBlocks x = e.made(ABC + "sign k 1 1 kind k; sign i 1 1 means q;", "p a", "q ab", "r b", "s c k");
        dueWays(x, "a", 1);
        dueWays(x, "a b", 2);
        dueWays(x, "a b a b", 4);
        dueWays(x, "c k", 1);
        dueWays(x, "a c k b", 1);
        dueWays(x, "i b", 2);
        // all of it: nothing is left, ahead, between or behind
        dueWays(x, "c", 0);
        dueWays(x, "k", 0);
        dueWays(x, "k a", 0);
        dueWays(x, "a k", 0);
        dueWays(x, "a c b", 0);
        dueWays(x, "c a", 0);
        dueWays(x, Edges.times("a", 24, " "), 1);
        dueWays(x, Edges.times("a b", 12, " "), 4096);
        // to the 24th SIGN: an IDEA, a KIND there
        dueWays(x, Edges.times("i", 24, " "), 1);
        dueWays(x, Edges.times("a", 23, " ") + " i", 1);
        dueWays(x, Edges.times("a", 22, " ") + " c k", 1);
        dueWays(x, Edges.times("a", 23, " ") + " c", 0);
        // of a row ahead that was longer nothing is left
        dueWays(x, "a c k", 1);
        dueWays(x, "a c", 0);
        dueWays(x, "i b", 2);
        dueWays(x, "i", 1);
        ScribeBlocks none = e.made(ABC);
        dueWays(none, "a", 0);
    }

    private void toldByTermAndEnd() {
        e.says("terms III", "(told by the TERM and where it ends; two TERMS that are spelled alike are two WAYS).");
        ScribeBlocks x = e.made(ABC, "p a", "q a", "r aa", "s aa");
        dueWays(x, "a", 2);
        dueWays(x, "a a", 4 + 2);
        dueWays(x, "a a a", 8 + 4 + 4);
        // a SPELLING that is a COVER in two ways is one WAY
        x = e.made("sign x 1 1 sounds ab; sign y 1 1 sounds bb; sign b 1 1 sounds b;", "p abbbbb");
        dueWays(x, "x b y b b", 1);
        // one row of TERMS that ends at other places is another WAY
        x = e.made("sign x 1 1 sounds ab; sign y 1 1 sounds bb; sign b 1 1 sounds b;", "m ab", "n bbb");
        dueWays(x, "x b y b", 2);
    }

    private void fewestTerms() {
        e.says("terms III", "The FIRST WAY: the fewest TERMS;");
        ScribeBlocks x = e.made(ABC, "p a", "q aa", "r aab", "s b");
        dueRead(x, "a a", 1, 2);
        dueRead(x, "a a b", 2, 3);
        dueRead(x, "a a a b", 0, 1, 2, 3);
        dueRead(x, "a b a a", 0, 1, 3, 1, 1, 2);
        // another row: of the one ahead no TERM is left
        x = e.made(ABC, "p a", "q aa", "r bc");
        dueRead(x, "a a a", 0, 1, 1, 2);
        dueRead(x, "a a b c", 1, 2, 2, 2);
        // the longest first piece is not the way to the fewest
        x = e.made(ABC, "p aa", "q abbb", "r b");
        dueRead(x, "a a b b b", 0, 2, 2, 1, 2, 1, 2, 1);
        x = e.made(ABC, "p aa", "q abbb", "r b", "s a");
        dueRead(x, "a a b b b", 3, 1, 1, 4);
    }

    private void leastTerms() {
        e.says("terms III", "then the least row of TERMS;");
        ScribeBlocks x = e.made(ABC, "p a", "q a");
        dueRead(x, "a", 0, 1);
        dueRead(x, "a a", 0, 1, 0, 1);
        // p is the longer one: the least row of TERMS is not the least of lengths
        x = e.made(ABC, "p aa", "q a");
        dueRead(x, "a a a", 0, 2, 1, 1);
        x = e.made(ABC, "q a", "p aa");
        dueRead(x, "a a a", 0, 1, 1, 2);
        // a first piece of one TERM and two lengths: what comes behind decides
        x = e.made("sign x 1 1 sounds ab; sign b 1 1 sounds b; sign c 1 1 sounds c;", "m ab", "n c", "o bc", "l b");
        dueRead(x, "x b c", 0, 2, 1, 1);
        x = e.made("sign x 1 1 sounds ab; sign b 1 1 sounds b; sign c 1 1 sounds c;", "m ab", "o bc", "n c", "l b");
        dueRead(x, "x b c", 0, 1, 1, 2);
    }

    private void leastLengths() {
        e.says("terms III", "then the least row of lengths.");
        ScribeBlocks x = e.made("sign x 1 1 sounds ab; sign y 1 1 sounds bb; sign b 1 1 sounds b;", "m ab", "n bbb");
        // x, b y b with an ECHO; or x b with one, y b
        dueRead(x, "x b y b", 0, 1, 1, 3);
        Harness.write(x, "x b y b");
        e.due("both are WAYS", x.ways(), 2);
        dueRead(x, "x b y b x b y b", 0, 1, 1, 3, 0, 1, 1, 3);
        // another row: of the one ahead no length is left
        Harness.term(x, "o c");
        Harness.list(x, "sign x 1 1 sounds ab; sign y 1 1 sounds bb; sign b 1 1 sounds b; sign c 1 1 sounds c;");
        dueRead(x, "x b y b", 0, 1, 1, 3);
        dueRead(x, "x b c", 0, 2, 2, 1);
    }

    // ---- terms IV, GROUPED

    private void shapes() {
        e.says("terms IV", "GROUPED: a row of SIGNS cut in BLOCKS, each of 1 .. 4 SIGNS A B C D in one of the SHAPES:"
                + " 0 A; 1 A*B; 2 A:B; 3 A*B*C; 4 A:B:C; 5 A*(B:C); 6 (A:B)*C; 7 A:(B*C); 8 (A*B):C;"
                + " 9 (A:B)*(C:D); 10 (A*B):(C*D).");
        // SIGNS that fit one SHAPE alone in 19 by 19, with gaps of 1
        ScribeBlocks x = e.made("sign a 9 9; sign w 19 9; sign h 9 19; sign q 19 19; sign r 5 19; sign v 19 5; sign n 5 9;"
                + "sign m 13 9; sign l 9 5; sign o 9 13; gap 1; square 19; least 100;");
        dueGroup(x, "q", 0, 100);
        dueGroup(x, "h h", 1, 100);
        dueGroup(x, "w w", 2, 100);
        dueGroup(x, "r r r", 3, 100);
        dueGroup(x, "v v v", 4, 100);
        dueGroup(x, "h a a", 5, 100);
        dueGroup(x, "a a h", 6, 100);
        dueGroup(x, "w a a", 7, 100);
        dueGroup(x, "a a w", 8, 100);
        dueGroup(x, "l o o l", 9, 100);
        dueGroup(x, "l o l o", 9, 100);
        dueGroup(x, "n m m n", 10, 100);
        dueGroup(x, "n m n m", 10, 100);
        // gaps count in each: with 2 between none of these fits
        String[] rows = {"h h", "w w", "h a a", "a a h", "w a a", "a a w", "l o o l", "n m m n"};
        x = e.made("sign a 9 9; sign w 19 9; sign h 9 19; sign n 5 9; sign m 13 9; sign l 9 5; sign o 9 13;"
                + "gap 2; square 19; least 100;");
        for (String row : rows) {
            e.due("write", Harness.write(x, row) > 0 ? 1 : 0, 1);
            e.due("not one BLOCK: " + row, x.group() > 1 ? 1 : 0, 1);
        }
        // five never stand in one
        x = e.made("sign a 1 1; gap 0; square 99;");
        dueGroup(x, "a a a a", 9, 100);
        dueGroup(x, "a a a a a", 0, 100, 9, 100);
        dueGroup(x, "a", 0, 100);
    }

    private void allLegible() {
        e.says("terms IV", "All must be LEGIBLE.");
        // two of 24 beside are 48 or 49 wide: 50 or 48 of 100
        ScribeBlocks x = e.made("sign a 24 24; gap 0;");
        dueGroup(x, "a a", 1, 50);
        x = e.made("sign a 24 24; gap 1;");
        dueGroup(x, "a a", 0, 100, 0, 100);
        x = e.made("sign a 24 24; gap 0; least 51;");
        dueGroup(x, "a a", 0, 100, 0, 100);
        x = e.made("sign a 24 24; sign z 49 1; gap 0;");
        dueGroup(x, "a z");
        dueGroup(x, "z a");
        dueGroup(x, "a z a");
    }

    private void fewestBlocks() {
        e.says("terms IV", "The fewest BLOCKS;");
        // one BLOCK of 50 is ahead of two of 100
        ScribeBlocks x = e.made("sign a 24 24; gap 0;");
        dueGroup(x, "a a", 1, 50);
        dueGroup(x, "a a a a", 9, 50);
        x = e.made("sign a 12 12; sign z 12 24; gap 0; least 100;");
        dueGroup(x, "a a a a z z", 9, 100, 1, 100);
        dueGroup(x, "a a z a a z", 6, 100, 6, 100);
        dueGroup(x, Edges.times("a", 24, " "), 9, 100, 9, 100, 9, 100, 9, 100, 9, 100, 9, 100);
        x = e.made("sign a 24 24; gap 0; least 100;");
        e.due("24", Harness.write(x, Edges.times("a", 24, " ")), 24);
        e.due("24 BLOCKS", x.group(), 24);
        e.due("the last", x.grouped(23, 1), 100);
        e.due("behind", x.grouped(24, 1), -1);
    }

    private void greatestSum() {
        e.says("terms IV", "then the greatest sum of PERCENTS;");
        // three of 10 by 10: in a row 30, else 20
        ScribeBlocks x = e.made("sign a 10 10; gap 0; square 10; least 33;");
        dueGroup(x, "a a a", 5, 50);
        // five: 1 and 4, or 2 and 3: 100 and 50, or 50 and 50
        dueGroup(x, "a a a a a", 0, 100, 9, 50);
        x = e.made("sign w 20 10; sign h 10 20; gap 0; square 20; least 50;");
        dueGroup(x, "w w", 2, 100);
        dueGroup(x, "h h", 1, 100);
        dueGroup(x, "h h w", 5, 66);
        // 1 and 4 have 100 and 66, 8 and 2 have 100 both
        x = e.made("sign a 10 10; sign b 20 10; gap 0; square 20; least 66;");
        dueGroup(x, "a a b b b", 8, 100, 2, 100);
    }

    private void leastShapes() {
        e.says("terms IV", "then the least row of SHAPES.");
        ScribeBlocks x = e.made("sign a 1 1; gap 0; square 99;");
        dueGroup(x, "a a", 1, 100);
        dueGroup(x, "a a a", 3, 100);
        dueGroup(x, "a a a a", 9, 100);
        dueGroup(x, "a a a a a", 0, 100, 9, 100);
        dueGroup(x, "a a a a a a", 1, 100, 9, 100);
        dueGroup(x, "a a a a a a a", 3, 100, 9, 100);
        dueGroup(x, "a a a a a a a a", 9, 100, 9, 100);
        dueGroup(x, "a a a a a a a a a", 0, 100, 9, 100, 9, 100);
        // a lesser SHAPE of less PERCENT, or that isn't LEGIBLE, is none
        x = e.made("sign a 4 4; gap 0; square 8; least 66;");
        dueGroup(x, "a a a", 5, 100);
        x = e.made("sign w 12 4; gap 0; square 12; least 100;");
        dueGroup(x, "w w w", 4, 100);
    }

    private void noWay() {
        e.says("terms IV", "None, if no way is.");
        ScribeBlocks x = e.made("sign a 24 24; sign z 49 1; sign y 1 49; sign b 48 48;");
        dueGroup(x, "z");
        dueGroup(x, "y");
        dueGroup(x, "a a a y");
        dueGroup(x, "b", 0, 50);
        e.due("24", Harness.write(x, Edges.times("a", 23, " ") + " z"), 24);
        e.due("none", x.group(), -1);
        e.due("24", Harness.write(x, "z " + Edges.times("a", 23, " ")), 24);
        e.due("none", x.group(), -1);
    }

    // ---- promises 18 to 26

    private void write() {
        e.says("promise 18", "THE TAPE is a row of names of SIGNS: it is WRITTEN: how many (1 .. 24);");
        ScribeBlocks x = e.made("sign a 1 1; sign b 1 1; sign abcdefghijkl 1 1;");
        for (int many = 1; many <= 24; many++) {
            e.due(many + " SIGNS", Harness.write(x, Edges.times("b", many, "\n")), many);
            e.due("count(4)", x.count(4), many);
            e.due("the last", x.written(many - 1), 1);
        }
        e.due("12 letters", Harness.write(x, "abcdefghijkl a"), 2);
        e.due("the first", x.written(0), 2);

        e.says("promise 18", "NONE: it is none (the one ahead stays).");
        x = e.made("sign a 1 1; sign b 1 1;");
        e.due("none ahead", Harness.write(x, ""), -1);
        e.due("none is WRITTEN", x.ways(), -4);
        e.due("two", Harness.write(x, "b a"), 2);
        String[] none = {"", " ", "c", "a c", "a a c", "a b 1", "a-b", "a*b", "a;", "(a)", "A", "a\u00e9", "aa", "a b;",
            "abcdefghijklm", Edges.times("a", 25, " "), Edges.times("a", 26, " "), Edges.times("a", 24, " ") + " c",
            Edges.times("a", 24, " ") + ";", Edges.times("a", 200, " ")};
        for (String row : none) {
            e.due("'" + row + "'", Harness.write(x, row), -1);
            e.due("how many behind '" + row + "'", x.count(4), 2);
            e.due("SIGN 0 behind '" + row + "'", x.written(0), 1);
            e.due("SIGN 1 behind '" + row + "'", x.written(1), 0);
        }
        e.due("an empty TAPE", x.write(), -1);
    }

    private void written() {
        e.says("promise 19", "SIGN i of the row that is WRITTEN; NONE.");
        ScribeBlocks x = e.made("sign a 1 1; sign b 1 1; sign c 1 1;");
        e.due("none is WRITTEN", x.written(0), -1);
        Harness.write(x, "c a b");
        e.due("SIGN 0", x.written(0), 2);
        e.due("SIGN 1", x.written(1), 0);
        e.due("SIGN 2", x.written(2), 1);
        e.dueAll("behind", -1, x.written(3), x.written(4), x.written(23), x.written(24), x.written(25));
        for (int far : Edges.FAR) {
            e.due("written(" + far + ")", x.written(far), -1);
        }
        Harness.write(x, Edges.times("b", 24, " "));
        e.due("the 24th", x.written(23), 1);
        e.due("no 25th", x.written(24), -1);
        Harness.write(x, "a");
        e.due("of a longer one nothing is left", x.written(1), -1);
    }

    private ScribeBlocks tenAlike() {
        String[] terms = new String[10];
        for (int t = 0; t < 10; t++) {
            terms[t] = Edges.name(t) + " a";
        }
        return e.made(ABC, terms);
    }

    private void ways() {
        e.says("promise 20", "WAYS of it; at most 1000000000, FULL beyond;");
        ScribeBlocks x = tenAlike();
        dueWays(x, Edges.times("a", 8, " "), 100000000);
        dueWays(x, Edges.times("a", 9, " "), 1000000000);
        dueWays(x, Edges.times("a", 10, " "), -3);
        dueWays(x, Edges.times("a", 24, " "), -3);
        dueWays(x, Edges.times("a", 23, " ") + " b", 0);
        dueWays(x, "b " + Edges.times("a", 23, " "), 0);
        Harness.term(x, "more aaaaaaaa");
        // one for eight, ahead of ten or behind them
        dueWays(x, Edges.times("a", 8, " "), 100000001);
        dueWays(x, Edges.times("a", 9, " "), -3);
        // 25 25 25 25 8 8 8 5 is just 1000000000; a TERM of the whole row is one more
        x = e.made("sign d 1 1 sounds d; sign f 1 1 sounds e; sign g 1 1 sounds f;");
        for (int t = 0; t < 38; t++) {
            Harness.term(x, Edges.name(t) + (t < 25 ? " d" : t < 33 ? " e" : " f"));
        }
        dueWays(x, "d d d d f f f g", 1000000000);
        Harness.term(x, "whole ddddeeef");
        dueWays(x, "d d d d f f f g", -3);
        dueWays(x, "d d d d f f f", 200000000);

        e.says("promise 20", "STATE: none is WRITTEN.");
        x = e.made(ABC, "p a");
        e.due("ways", x.ways(), -4);
        e.due("none such", Harness.write(x, "oh"), -1);
        e.due("ways", x.ways(), -4);
        Harness.write(x, "a");
        e.due("ways", x.ways(), 1);
        Harness.list(x, ABC);
        e.due("behind a LIST", x.ways(), -4);
        e.due("a new object", new ScribeBlocks().ways(), -4);
    }

    private void waysOn() {
        e.says("promise 21", "Likewise for a day, as KNOWN on a day;");
        ScribeBlocks x = tenAlike();
        Harness.value(x, "a", 1, 500, 600);
        Harness.write(x, Edges.times("b", 9, " "));
        e.due("1000000000", x.waysOn(500, 600), 1000000000);
        e.due("not yet", x.waysOn(499, 600), 0);
        e.due("not KNOWN yet", x.waysOn(500, 599), 0);
        e.due("the last day", x.waysOn(999, 999), 1000000000);
        Harness.write(x, Edges.times("b", 10, " "));
        e.due("FULL", x.waysOn(500, 600), -3);
        e.due("none by THE LIST", x.ways(), 0);
        e.due("none on day 0", x.waysOn(0, 0), 0);

        e.says("promise 21", "RANGE; STATE.");
        int[] wrong = {-1, 1000, 1001, Integer.MIN_VALUE, Integer.MAX_VALUE};
        for (int day : wrong) {
            e.due("day " + day, x.waysOn(day, 0), -2);
            e.due("known " + day, x.waysOn(0, day), -2);
            e.due("both " + day, x.waysOn(day, day), -2);
        }
        e.due("0", x.waysOn(0, 999), 0);
        ScribeBlocks y = e.made(ABC, "p a");
        e.due("none is WRITTEN", y.waysOn(0, 0), -4);
        e.due("none is WRITTEN", y.waysOn(999, 999), -4);
        e.due("RANGE ahead of STATE", y.waysOn(1000, 0), -2);
        e.due("RANGE ahead of STATE", y.waysOn(0, -1), -2);
    }

    private void read() {
        e.says("promise 22", "The FIRST WAY of it: how many TERMS; NONE: it has none; STATE.");
        ScribeBlocks x = e.made(ABC, "p a", "q bb");
        e.due("none is WRITTEN", x.read(), -4);
        Harness.write(x, Edges.times("a", 24, " "));
        e.due("24 TERMS", x.read(), 24);
        for (int i = 0; i < 24; i++) {
            e.due("TERM " + i, x.readTerm(i, 0), 0);
            e.due("SIGNS " + i, x.readTerm(i, 1), 1);
        }
        e.due("no 25th", x.readTerm(24, 0), -1);
        ScribeBlocks many = e.made(ABC);
        for (int t = 0; t < 40; t++) {
            Harness.term(many, Edges.name(t) + (t < 39 ? " b" : " a"));
        }
        Harness.write(many, Edges.times("a", 24, " "));
        e.due("40 TERMS, 24 SIGNS", many.read(), 24);
        e.due("the last TERM", many.readTerm(23, 0), 39);
        e.due("ways", many.ways(), 1);
        dueRead(x, "b b", 1, 2);
        dueRead(x, "b");
        dueRead(x, "b b b");
        dueRead(x, "c");
        dueRead(x, "a a c");
        Harness.write(x, Edges.times("a", 23, " ") + " b");
        e.due("none", x.read(), -1);
        ScribeBlocks none = e.made(ABC);
        Harness.write(none, "a");
        e.due("no TERMS", none.read(), -1);
        Harness.list(x, ABC);
        e.due("behind a LIST", x.read(), -4);
        // by THE LIST, whatever VALUES are told
        Harness.value(x, "bb", 2, 0, 0);
        Harness.write(x, "c");
        e.due("waysOn", x.waysOn(0, 0), 1);
        e.due("read", x.read(), -1);
    }

    private void readTerm() {
        e.says("promise 23", "Of the i-th TERM of the latest read() that told a number, what 0: which, 1: how many SIGNS.");
        ScribeBlocks x = e.made(ABC, "p a", "q bb");
        e.due("no read() yet", x.readTerm(0, 0), -1);
        Harness.write(x, "b b a b b");
        e.due("not read", x.readTerm(0, 0), -1);
        x.read();
        int[] which = {1, 0, 1};
        int[] many = {2, 1, 2};
        for (int i = 0; i < 3; i++) {
            e.due("TERM " + i, x.readTerm(i, 0), which[i]);
            e.due("SIGNS " + i, x.readTerm(i, 1), many[i]);
        }
        Harness.term(x, "r bba");
        e.due("a TERM came", x.readTerm(0, 0), 1);
        e.due("the latest", x.read(), 2);
        e.due("TERM 0", x.readTerm(0, 0), 2);
        e.due("no TERM 2", x.readTerm(2, 0), -1);
    }

    private void readTermNone() {
        e.says("promise 23", "NONE when there is none such, or a row was WRITTEN, a LIST came since.");
        ScribeBlocks x = e.made(ABC, "p a", "q bb");
        Harness.write(x, "b b a");
        e.due("read", x.read(), 2);
        e.dueAll("no TERM", -1, x.readTerm(2, 0), x.readTerm(2, 1), x.readTerm(3, 0), x.readTerm(23, 0), x.readTerm(24, 1));
        e.dueAll("no what", -1, x.readTerm(0, 2), x.readTerm(0, 3), x.readTerm(0, 10), x.readTerm(1, 11));
        for (int far : Edges.FAR) {
            e.dueAll("far " + far, -1, x.readTerm(far, 0), x.readTerm(0, far), x.readTerm(far, far));
        }
        // none of these writes a row or brings a LIST
        Harness.write(x, "oh");
        Harness.write(x, "");
        Harness.list(x, "?");
        Harness.blocks(x, "a");
        Harness.term(x, "r c");
        Harness.value(x, "a", 0, 0, 0);
        x.ways();
        x.waysOn(0, 0);
        x.spells(0);
        x.group();
        x.say(0);
        x.fill(1);
        x.clear();
        e.due("TERM 0", x.readTerm(0, 0), 1);
        e.due("SIGNS 0", x.readTerm(0, 1), 2);
        e.due("TERM 1", x.readTerm(1, 0), 0);
        Harness.write(x, "b b a");
        e.due("the same row was WRITTEN", x.readTerm(0, 0), -1);
        e.due("read", x.read(), 2);
        Harness.list(x, ABC);
        e.due("the same LIST came", x.readTerm(0, 0), -1);
        Harness.write(x, "a");
        x.read();
        Harness.list(x, "");
        e.due("an empty LIST came", x.readTerm(0, 1), -1);
    }

    private void spells() {
        e.says("promise 24", "1 if the row that is WRITTEN is a SPELLING of a TERM, else 0;");
        ScribeBlocks x = e.made(ABC, "p a", "q ab", "r abcabcab", "s d");
        Harness.write(x, "a");
        e.due("p", x.spells(0), 1);
        e.dueAll("others", 0, x.spells(1), x.spells(2), x.spells(3));
        Harness.write(x, "a b");
        e.due("q", x.spells(1), 1);
        e.due("more than p", x.spells(0), 0);
        Harness.write(x, "a b c a b c a b");
        e.due("all of r", x.spells(2), 1);
        Harness.write(x, "a b c a b c a");
        e.due("not all of r", x.spells(2), 0);
        Harness.write(x, "a b c a b c a b c");
        e.due("more than r", x.spells(2), 0);
        Harness.write(x, "a");
        e.due("of the row ahead nothing is left", x.spells(1), 0);
        Harness.write(x, Edges.times("a b", 12, " "));
        e.dueAll("24 SIGNS", 0, x.spells(0), x.spells(1), x.spells(2), x.spells(3));

        e.says("promise 24", "RANGE; STATE.");
        e.dueAll("no TERM", -2, x.spells(4), x.spells(5), x.spells(39), x.spells(40));
        for (int far : Edges.FAR) {
            e.due("spells(" + far + ")", x.spells(far), -2);
        }
        ScribeBlocks y = e.made(ABC, "p a");
        e.due("none is WRITTEN", y.spells(0), -4);
        e.due("RANGE ahead of STATE", y.spells(1), -2);
        e.due("RANGE ahead of STATE", y.spells(-1), -2);
    }

    private void group() {
        e.says("promise 25", "It is GROUPED: how many BLOCKS; NONE: no way is; STATE.");
        ScribeBlocks x = e.made("sign a 24 24; sign z 60 60; sign b 1 1;");
        e.due("none is WRITTEN", x.group(), -4);
        dueGroup(x, "a", 0, 100);
        dueGroup(x, "z");
        dueGroup(x, "b b b b b b b b", 9, 100, 9, 100);
        dueGroup(x, "b b b z");
        Harness.list(x, "sign a 24 24;");
        e.due("behind a LIST", x.group(), -4);
        e.due("a new object", new ScribeBlocks().group(), -4);
    }

    private void grouped() {
        e.says("promise 26", "Of the i-th BLOCK of the latest group() that told a number, what 0: its SHAPE, 1: its PERCENT.");
        ScribeBlocks x = e.made("sign a 10 10; sign w 40 10; gap 0; square 20;");
        e.due("no group() yet", x.grouped(0, 0), -1);
        Harness.write(x, "w w w w");
        e.due("not grouped", x.grouped(0, 0), -1);
        x.group();
        // 40 by 40 at most: 4 of 40 by 30, then one; or two and two
        e.due("SHAPE 0", x.grouped(0, 0), 0);
        e.due("PERCENT 0", x.grouped(0, 1), 50);
        e.due("SHAPE 1", x.grouped(1, 0), 4);
        e.due("PERCENT 1", x.grouped(1, 1), 50);
        Harness.write(x, "a a a");
        x.group();
        e.due("SHAPE 0", x.grouped(0, 0), 5);
        e.due("PERCENT 0", x.grouped(0, 1), 100);
        e.due("no BLOCK 1", x.grouped(1, 0), -1);
    }

    private void groupedNone() {
        e.says("promise 26", "NONE as readTerm().");
        ScribeBlocks x = e.made("sign a 10 10 sounds a; gap 0; square 10; least 100;", "p a");
        Harness.write(x, "a a");
        e.due("group", x.group(), 2);
        e.dueAll("no BLOCK", -1, x.grouped(2, 0), x.grouped(2, 1), x.grouped(3, 0), x.grouped(23, 0), x.grouped(24, 0));
        e.dueAll("no what", -1, x.grouped(0, 2), x.grouped(0, 3), x.grouped(1, 10), x.grouped(1, 11));
        for (int far : Edges.FAR) {
            e.dueAll("far " + far, -1, x.grouped(far, 0), x.grouped(0, far), x.grouped(far, far));
        }
        Harness.write(x, "oh");
        Harness.list(x, "?");
        Harness.blocks(x, "a*a");
        Harness.term(x, "q aa");
        Harness.value(x, "a", 0, 0, 0);
        x.ways();
        x.read();
        x.spells(0);
        x.say(1);
        x.fill(2);
        x.fills();
        x.judge();
        e.due("SHAPE 1", x.grouped(1, 0), 0);
        e.due("PERCENT 1", x.grouped(1, 1), 100);
        Harness.write(x, "a a");
        e.due("the same row was WRITTEN", x.grouped(0, 0), -1);
        e.due("group", x.group(), 2);
        Harness.list(x, "sign a 10 10 sounds a;");
        e.due("a LIST came", x.grouped(0, 0), -1);
    }
}
