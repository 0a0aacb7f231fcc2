/** BLOCKS, their texts, sizes, BOXES, facing: terms I and II, promises 9 to 12. */
final class BlockEdges {
    private final Edges e;

    BlockEdges(Edges e) {
        this.e = e;
    }

    void all() {
        texts();
        items();
        rooms();
        unknown();
        naturalSign();
        behindAnd();
        naturalBeside();
        naturalOver();
        places();
        placeBehindAnd();
        shrunk();
        middle();
        box();
        facingLeft();
        percent();
        blocks();
        blockNumbers();
        boxNumbers();
        face();
    }

    private void dueBlock(ScribeBlocks x, int b, int... want) {
        for (int what = 0; what < want.length; what++) {
            e.due("block(" + b + ", " + what + ")", x.block(b, what), want[what]);
        }
    }

    private void dueBox(ScribeBlocks x, int k, int... want) {
        for (int what = 0; what < want.length; what++) {
            e.due("box(" + k + ", " + what + ")", x.box(k, what), want[what]);
        }
    }

    private ScribeBlocks laid(String list, String blocks) {
        ScribeBlocks x = e.made(list);
        if (Harness.blocks(x, blocks) < 0) {
            throw new IllegalStateException("no BLOCKS: " + blocks);
        }
        return x;
    }

    // ---- terms I

    private void texts() {
        e.says("terms I", "BLOCKS are told by a text = BLOCK {\"-\" BLOCK};");
        e.blocksRight("a", 1);
        e.blocksRight("a-b", 2);
        e.blocksRight("a-b-c", 3);
        e.blocksFault("", 1, 0);
        e.blocksFault("-", 1, 0);
        e.blocksFault("a-", 1, 2);
        e.blocksFault("a--b", 1, 2);
        e.blocksFault("-a", 1, 0);
        e.blocksFault("a b", 1, 2);
        e.blocksFault("(a-b)", 1, 2);
        e.blocksFault("a;", 1, 1);

        e.says("terms I", "BLOCK = OVER {\"*\" OVER};");
        e.blocksRight("a*b*c", 1);
        e.blocksFault("*a", 1, 0);
        e.blocksFault("a*", 1, 2);
        e.blocksFault("a**b", 1, 2);
        e.blocksFault("a*-b", 1, 2);
        e.blocksFault("a-*b", 1, 2);

        e.says("terms I", "OVER = ITEM {\":\" ITEM};");
        e.blocksRight("a:b:c", 1);
        e.blocksFault(":a", 1, 0);
        e.blocksFault("a:", 1, 2);
        e.blocksFault("a::b", 1, 2);
        e.blocksFault("a:*b", 1, 2);
        e.blocksFault("a:-b", 1, 2);
        // over binds closer than beside
        ScribeBlocks x = laid("sign a 1 1; gap 0;", "a*a:a-a:a*a:a");
        dueBlock(x, 0, 2, 2, 3);
        dueBlock(x, 1, 2, 2, 4);
    }

    private void items() {
        e.says("terms I", "ITEM = W [\"&\" W] | \"(\" BLOCK \")\".");
        e.blocksRight("a&b", 1);
        e.blocksRight("a&b*c&d:e&a", 1);
        e.blocksRight("(a)", 1);
        e.blocksRight("(a&b)", 1);
        e.blocksRight("(a*b:c)", 1);
        e.blocksRight("((a)*(b)):(c)", 1);
        e.blocksFault("a&", 1, 2);
        e.blocksFault("&a", 1, 0);
        e.blocksFault("a&b&c", 1, 3);
        e.blocksFault("a&&b", 1, 2);
        e.blocksFault("a&(b)", 1, 2);
        e.blocksFault("(a)&b", 1, 3);
        e.blocksFault("()", 1, 1);
        e.blocksFault("(", 1, 1);
        e.blocksFault(")", 1, 0);
        e.blocksFault("(a", 1, 2);
        e.blocksFault("a)", 1, 1);
        e.blocksFault("(a))", 1, 3);
        e.blocksFault("((a)", 1, 4);
        e.blocksFault("(a)(b)", 1, 3);
        e.blocksFault("(a)b", 1, 3);
        e.blocksFault("a(b)", 1, 1);
        e.blocksFault("(a*)", 1, 3);
        e.blocksFault("(a&)", 1, 3);
        e.blocksFault("(-a)", 1, 1);

        e.says("terms I", "Each W is the name of a SIGN.");
        ScribeBlocks x = e.made("sign a 1 1; sign abcdefghijkl 2 2;");
        e.due("names", Harness.blocks(x, "abcdefghijkl&a"), 1);
        e.due("SIGN", x.box(0, 0), 1);
        e.due("SIGN", x.box(1, 0), 0);
        e.due("no name", Harness.blocks(x, "abcdefghijk"), -1);
        e.due("UNKNOWN", x.fault(0), 5);
    }

    private void rooms() {
        e.says("terms I", "At most 12 BLOCKS,");
        e.blocksRight(Edges.times("a", 12, "-"), 12);
        e.blocksRight(Edges.times("(a*b)", 12, "-"), 12);
        e.blocksFault(Edges.times("a", 13, "-"), 4, 24);

        e.says("terms I", "24 SIGNS in all,");
        ScribeBlocks x = e.blocksRight(Edges.times("a", 24, "*"), 1);
        e.due("SIGNS", x.count(3), 24);
        e.due("the last", x.box(23, 0), 0);
        x = e.blocksRight(Edges.times("a*b", 12, "-"), 12);
        e.due("SIGNS", x.count(3), 24);
        x = e.blocksRight(Edges.times("a&b", 12, "-"), 12);
        e.due("SIGNS", x.count(3), 24);
        e.due("the last", x.box(23, 0), 1);
        e.due("its BLOCK", x.box(23, 1), 11);
        e.blocksFault(Edges.times("a", 25, ":"), 4, 48);

        e.says("terms I", "4 ( open at once.");
        e.blocksRight("((((a))))", 1);
        e.blocksRight("((((a))))*((((b)))):((((c))))-((((d))))", 2);
        e.blocksRight("((((a)*(b))))", 1);
        e.blocksRight(Edges.times("((((a))))", 24, "*"), 1);
        e.blocksFault("(((((a)))))", 4, 4);

        e.says("terms I", "the 13th BLOCK, at its first TOKEN;");
        e.blocksFault(Edges.times("a", 12, "-") + "-a", 4, 24);
        e.blocksFault(Edges.times("a", 12, "-") + "-  (", 4, 26);
        e.blocksFault(Edges.times("a", 12, "-") + "-", 1, 24);
        e.blocksFault(Edges.times("a", 12, "-") + "- ", 1, 25);
        e.blocksFault(Edges.times("a", 11, "-") + "-((((a))))-a", 4, 32);

        e.says("terms I", "the 25th SIGN;");
        e.blocksFault(Edges.times("a", 24, "*") + "*a", 4, 48);
        e.blocksFault(Edges.times("a", 24, "*") + "&a", 4, 48);
        e.blocksFault(Edges.times("a", 24, "*") + "-a", 4, 48);
        e.blocksFault(Edges.times("a", 24, "*") + "-(a", 4, 49);
        e.blocksFault(Edges.times("a", 24, "*") + "*", 1, 48);
        e.blocksFault(Edges.times("a&a", 12, ":") + ":a", 4, 48);

        e.says("terms I", "the fifth ( .");
        e.blocksFault("(((((", 4, 4);
        e.blocksFault("((((a*(", 4, 6);
        e.blocksFault("((((a):(b)):(c):(((", 4, 18);
        e.blocksFault("a-(((( (", 4, 7);
        e.blocksRight("((((a):(b)):(c):(d)))", 1);
    }

    private void unknown() {
        e.says("terms I", "5 UNKNOWN: a W of a BLOCK that is no SIGN's name.");
        e.blocksFault("f", 5, 0);
        e.blocksFault("aa", 5, 0);
        e.blocksFault("a-f", 5, 2);
        e.blocksFault("a*f", 5, 2);
        e.blocksFault("a:f", 5, 2);
        e.blocksFault("a&f", 5, 2);
        e.blocksFault("((((f", 5, 4);
        e.blocksFault(Edges.times("a", 11, "-") + "-f", 5, 22);
        e.blocksFault(Edges.times("a", 23, "*") + "*f", 5, 46);
        e.blocksFault("sign", 5, 0);
        ScribeBlocks x = new ScribeBlocks();
        e.due("without SIGNS", Harness.blocks(x, "a"), -1);
        e.due("UNKNOWN", x.fault(0), 5);
        e.due("PLACE", x.fault(1), 0);
    }

    // ---- terms II

    private void naturalSign() {
        e.says("terms II", "NATURAL size of a part: of a SIGN: its width and height;");
        ScribeBlocks x = laid("sign a 1 1; sign b 60 60; sign c 1 60;", "a-b-c-(c)-((((b))))");
        dueBlock(x, 0, 1, 1);
        dueBlock(x, 1, 60, 60);
        dueBlock(x, 2, 1, 60);
        dueBlock(x, 3, 1, 60);
        dueBlock(x, 4, 60, 60);
    }

    private void behindAnd() {
        e.says("terms II", "with & behind it: likewise");
        // what stands behind & adds nothing, however large it is
        ScribeBlocks x = laid("sign a 1 2; sign b 60 60;", "a&b-a&a-a&b*a&b-a&b:a&b");
        dueBlock(x, 0, 1, 2, 2);
        dueBlock(x, 1, 1, 2, 2);
        dueBlock(x, 2, 3, 2, 4);
        dueBlock(x, 3, 1, 5, 4);

        e.says("terms II", "(the SIGN behind & has half its width and half its height, cut, 1 at least).");
        x = laid("sign a 40 40; sign b 1 1; sign c 2 3; sign d 3 2; sign f 60 59; square 99;",
                "a&b-a&c-a&d-a&f-a&a");
        int[][] halves = {{1, 1}, {1, 1}, {1, 1}, {30, 29}, {20, 20}};
        for (int b = 0; b < 5; b++) {
            e.due("width", x.box(2 * b + 1, 4), halves[b][0]);
            e.due("height", x.box(2 * b + 1, 5), halves[b][1]);
            e.due("the SIGN ahead is whole", x.box(2 * b, 4), 40);
        }
    }

    private void naturalBeside() {
        e.says("terms II", "Beside (*): the widths and a gap between each two, the greatest height.");
        String signs = "sign a 3 7; sign b 5 2; sign c 1 9;";
        int[] gaps = {0, 1, 9};
        for (int gap : gaps) {
            ScribeBlocks x = laid(signs + "gap " + gap + ";", "a-a*b-b*a-a*b*c-c*b*a*b-(a*b)*c");
            dueBlock(x, 0, 3, 7);
            dueBlock(x, 1, 8 + gap, 7);
            dueBlock(x, 2, 8 + gap, 7);
            dueBlock(x, 3, 9 + 2 * gap, 9);
            dueBlock(x, 4, 14 + 3 * gap, 9);
            dueBlock(x, 5, 9 + 2 * gap, 9);
        }
        ScribeBlocks x = laid("sign a 60 1; gap 9;", Edges.times("a", 24, "*"));
        dueBlock(x, 0, 24 * 60 + 23 * 9, 1, 24);
    }

    private void naturalOver() {
        e.says("terms II", "Over (:): the greatest width, the heights and a gap between each two.");
        String signs = "sign a 7 3; sign b 2 5; sign c 9 1;";
        int[] gaps = {0, 1, 9};
        for (int gap : gaps) {
            ScribeBlocks x = laid(signs + "gap " + gap + ";", "a-a:b-b:a-a:b:c-c:b:a:b-(a:b):c-a:b*c");
            dueBlock(x, 0, 7, 3);
            dueBlock(x, 1, 7, 8 + gap);
            dueBlock(x, 2, 7, 8 + gap);
            dueBlock(x, 3, 9, 9 + 2 * gap);
            dueBlock(x, 4, 9, 14 + 3 * gap);
            dueBlock(x, 5, 9, 9 + 2 * gap);
            dueBlock(x, 6, 16 + gap, 8 + gap);
        }
        ScribeBlocks x = laid("sign a 1 60; gap 9;", Edges.times("a", 24, ":"));
        dueBlock(x, 0, 1, 24 * 60 + 23 * 9, 24);
    }

    /** A SIGN as large as the square keeps the others' PLACES as they are: nothing is shrunk or moved. */
    private void places() {
        e.says("terms II", "PLACES in it, from its left and upper edge: beside: one behind the other from the left,"
                + " each lower by half (cut) of what its height lacks of the greatest;");
        ScribeBlocks x = laid("sign a 10 40; sign b 8 39; sign c 9 38; sign d 10 1; gap 1; square 40;", "a*b*c*d");
        dueBlock(x, 0, 40, 40);
        int[] lefts = {0, 11, 20, 30};
        int[] uppers = {0, 0, 1, 19};
        for (int k = 0; k < 4; k++) {
            e.due("left of " + k, x.box(k, 2), lefts[k]);
            e.due("upper of " + k, x.box(k, 3), uppers[k]);
        }
        // each pair of ( ) has its own greatest, and its own cut
        x = laid("sign a 4 3; sign b 4 8; sign c 4 13; sign f 28 28; gap 0; square 40;", "((a*b)*c)*f");
        int[] inner = {7 + 2 + 2, 7 + 2, 7, 0};
        for (int k = 0; k < 4; k++) {
            e.due("left of " + k, x.box(k, 2), 4 * k);
            e.due("upper of " + k, x.box(k, 3), 6 + inner[k]);
        }

        e.says("terms II", "over: one below the other, each to the right by half (cut) of what its width lacks;");
        x = laid("sign a 40 10; sign b 39 8; sign c 38 9; sign d 1 10; gap 1; square 40;", "a:b:c:d");
        dueBlock(x, 0, 40, 40);
        for (int k = 0; k < 4; k++) {
            e.due("upper of " + k, x.box(k, 3), lefts[k]);
            e.due("left of " + k, x.box(k, 2), uppers[k]);
        }
        x = laid("sign a 3 4; sign b 8 4; sign c 13 4; sign f 28 28; gap 0; square 40;", "((a:b):c):f");
        for (int k = 0; k < 4; k++) {
            e.due("upper of " + k, x.box(k, 3), 4 * k);
            e.due("left of " + k, x.box(k, 2), 6 + inner[k]);
        }
    }

    private void placeBehindAnd() {
        e.says("terms II", "the SIGN behind & at the upper edge, so far to the right that its right edge is that of"
                + " the SIGN ahead (below 0, if it is wider).");
        ScribeBlocks x = laid("sign a 40 40; sign b 20 10; sign c 60 60; sign d 8 8; gap 0; square 40;",
                "a&b-a&a-d&c*d-a&c");
        dueBox(x, 1, 1, 0, 30, 0, 10, 5);
        dueBox(x, 3, 0, 1, 20, 0, 20, 20);
        // 8 less 30 is -22; the BLOCK of 16 by 8 stands 12 to the right, 16 lower
        dueBox(x, 4, 3, 2, 12, 16, 8, 8);
        dueBox(x, 5, 2, 2, 12 - 22, 16, 30, 30);
        dueBox(x, 6, 3, 2, 20, 16, 8, 8);
        dueBox(x, 8, 2, 3, 10, 0, 30, 30);
        // it moves along with the SIGN ahead: to the right, and lower
        x = laid("sign a 10 10; sign b 4 4; sign c 40 30; gap 0; square 40;", "c:a&b-(a:c)*a&b");
        dueBox(x, 1, 0, 0, 15, 30, 10, 10);
        dueBox(x, 2, 1, 0, 23, 30, 2, 2);
    }

    private void shrunk() {
        e.says("terms II", "A BLOCK is shrunk to the square: with g the greatest of its width, its height and square,");
        ScribeBlocks x = laid("sign a 40 10; sign b 10 50; sign c 20 20; sign d 19 7; sign f 20 21; square 20;",
                "a-b-c-d-f");
        // by width, by height, by the square
        dueBlock(x, 0, 40, 10, 1, 50, 1, 20, 5);
        dueBlock(x, 1, 10, 50, 1, 40, 0, 4, 20);
        dueBlock(x, 2, 20, 20, 1, 100, 1, 20, 20);
        dueBlock(x, 3, 19, 7, 1, 100, 1, 19, 7);
        dueBlock(x, 4, 20, 21, 1, 95, 1, 19, 20);

        e.says("terms II", "a number c (of width, height, or PLACE) becomes c times square over g (cut towards 0).");
        x = laid("sign a 30 20; sign b 29 11; gap 1; square 20;", "a*b");
        // 60 by 20: a third
        dueBlock(x, 0, 60, 20, 2, 33, 0, 20, 6);
        dueBox(x, 0, 0, 0, 0, 7, 10, 6);
        dueBox(x, 1, 1, 0, 10, 7 + 4 / 3, 9, 3);
        // a PLACE below 0: -29 times 25 over 60 is -12 and a bit
        x = laid("sign a 1 60; sign b 60 3; square 25;", "a&b");
        dueBlock(x, 0, 1, 60, 2, 41, 0, 0, 25);
        dueBox(x, 0, 0, 0, 12, 0, 0, 25);
        dueBox(x, 1, 1, 0, 0, 0, 12, 0);
        // -1 times 24 over 25 is none at all
        x = laid("sign a 1 25; sign b 4 4; square 24;", "a&b");
        dueBox(x, 1, 1, 0, 12, 0, 1, 1);
        x = laid("sign a 60 60; gap 9; square 8;", Edges.times("a", 24, "*"));
        dueBlock(x, 0, 1647, 60, 24, 0, 0, 8, 0);
        dueBox(x, 23, 0, 0, 1587 * 8 / 1647, 4, 0, 0);
    }

    private void middle() {
        e.says("terms II", "It stands in the middle: to the right by half (cut) of square less its shrunk width,"
                + " lower likewise.");
        ScribeBlocks x = laid("sign a 20 20; sign b 19 18; sign c 1 2; sign d 40 3; sign f 3 40; square 20;",
                "a-b-c-d-f");
        int[][] edges = {{0, 0}, {0, 1}, {9, 9}, {0, 9}, {9, 0}};
        for (int k = 0; k < 5; k++) {
            e.due("left of " + k, x.box(k, 2), edges[k][0]);
            e.due("upper of " + k, x.box(k, 3), edges[k][1]);
        }
    }

    private void box() {
        e.says("terms II", "BOX of a SIGN in it: PLACE (each number shrunk, then put so far to the right, lower),"
                + " its shrunk width and height.");
        // 50 by 15: two fifths; 6 high, 7 lower; b at 31, 2
        ScribeBlocks x = laid("sign a 30 15; sign b 19 11; gap 1; square 20;", "a*b");
        dueBlock(x, 0, 50, 15, 2, 40, 0, 20, 6);
        dueBox(x, 0, 0, 0, 0, 7, 12, 6);
        dueBox(x, 1, 1, 0, 31 * 20 / 50, 7 + 2 * 20 / 50, 19 * 20 / 50, 11 * 20 / 50);
        // shrunk by itself, not edge by edge: 12 and 7 end at 19, the BLOCK's right edge at 20
        e.due("right edge", x.box(1, 2) + x.box(1, 4), 19);
    }

    private void facingLeft() {
        e.says("terms II", "Facing left, a BOX's left edge is square less its right edge.");
        ScribeBlocks x = laid("sign a 20 20; sign b 3 3; sign c 10 5; sign d 60 60; gap 1; square 20;",
                "a-b-c*b-a&c-b&d");
        int signs = x.count(3);
        int[] lefts = {0, 8, 3, 14, 0, 15, 8, -19};
        int[] widths = {20, 3, 10, 3, 20, 5, 3, 30};
        for (int k = 0; k < signs; k++) {
            e.due("facing right, " + k, x.box(k, 2), lefts[k]);
            e.due("width, " + k, x.box(k, 4), widths[k]);
        }
        int[] others = new int[signs];
        for (int k = 0; k < signs; k++) {
            others[k] = x.box(k, 3) * 100 + x.box(k, 5);
        }
        x.face(true);
        for (int k = 0; k < signs; k++) {
            e.due("facing left, " + k, x.box(k, 2), 20 - (lefts[k] + widths[k]));
            e.due("width, " + k, x.box(k, 4), widths[k]);
            e.due("upper edge and height, " + k, x.box(k, 3) * 100 + x.box(k, 5), others[k]);
        }
        dueBlock(x, 2, 14, 5, 2, 100, 1, 14, 5);
    }

    private void percent() {
        e.says("terms II", "PERCENT of a BLOCK: 100 times square over g (cut).");
        ScribeBlocks x = laid("sign a 8 8; sign b 9 1; sign c 1 60; sign d 24 1; square 8;", "a-b-c-d-d*d");
        int[] percents = {100, 88, 13, 33, 16};
        for (int b = 0; b < 5; b++) {
            e.due("PERCENT of " + b, x.block(b, 3), percents[b]);
        }
        x = laid("sign a 60 60; gap 9; square 8;", Edges.times("a", 24, ":") + "");
        e.due("PERCENT of the largest", x.block(0, 3), 0);

        e.says("terms II", "LEGIBLE: PERCENT is least or more.");
        // 100 times 24 over 48 is 50, over 49 it is 48, over 47 it is 51
        x = laid("sign a 48 1; sign b 49 1; sign c 1 47;", "a-b-c");
        e.due("just", x.block(0, 4), 1);
        e.due("less", x.block(1, 4), 0);
        e.due("more", x.block(2, 4), 1);
        x = laid("sign a 48 1; sign b 49 1; sign c 1 47; least 49;", "a-b-c");
        e.due("50 of 49", x.block(0, 4), 1);
        e.due("48 of 49", x.block(1, 4), 0);
        x = laid("sign a 24 24; sign b 25 1; least 100;", "a-b");
        e.due("100 of 100", x.block(0, 4), 1);
        e.due("96 of 100", x.block(1, 4), 0);
        x = laid("sign a 60 60; gap 9; square 8; least 1;", "a*a*a*a*a*a*a*a*a*a*a*a-a*a*a*a*a*a*a*a*a*a*a");
        // 819 and 750 wide: 0 and 1
        e.due("0 of 1", x.block(0, 4), 0);
        e.due("1 of 1", x.block(1, 4), 1);
    }

    // ---- promises 9 to 12

    private void blocks() {
        e.says("promise 9", "THE TAPE is BLOCKS: how many;");
        ScribeBlocks x = e.made(Edges.FIVES);
        e.due("12", Harness.blocks(x, Edges.times("a", 12, "-")), 12);
        e.due("one", Harness.blocks(x, "b"), 1);
        e.due("the latest alone", x.count(2), 1);
        e.due("their SIGNS alone", x.count(3), 1);
        e.due("their SIGN", x.box(0, 0), 1);
        e.dueAll("no others", -9, x.block(1, 0), x.box(1, 0));

        // told again, or behind others: laid out as on a new object
        String[] drafts = {"a:b*a-b", "b*b*a:a:a", "(a:b):a&b-b&a", "a:b*a-b", "b*a*b", "b*a", "b", "a:b:a", "a:b", "a",
            "a&b", "a"};
        for (int i = 0; i < drafts.length; i++) {
            x = e.made("sign a 5 9; sign b 11 3; gap 2;");
            for (int j = 0; j <= i; j++) {
                e.due("blocks", Harness.blocks(x, drafts[j]) > 0 ? 1 : 0, 1);
            }
            ScribeBlocks alone = laid("sign a 5 9; sign b 11 3; gap 2;", drafts[i]);
            for (int k = 0; k <= 5; k++) {
                for (int what = 0; what < 6; what++) {
                    e.due("box(" + k + ", " + what + ") of " + drafts[i], x.box(k, what), alone.box(k, what));
                    e.due("block(" + k + ", " + what + ") of " + drafts[i], x.block(k, what), alone.block(k, what));
                }
            }
        }

        e.says("promise 9", "NONE with a FAULT (those ahead stay).");
        x = laid("sign a 5 6; sign b 7 8; sign c 60 60;", "a*b-b");
        String[] wrong = {"", "c-c-c-", "c*(c:c", Edges.times("c", 13, "-"), Edges.times("c", 25, "*"), "(((((c", "c-oh"};
        int[] kinds = {1, 1, 1, 4, 4, 4, 5};
        for (int i = 0; i < wrong.length; i++) {
            e.due(wrong[i], Harness.blocks(x, wrong[i]), -1);
            e.due("KIND", x.fault(0), kinds[i]);
            e.due("BLOCKS", x.count(2), 2);
            e.due("SIGNS", x.count(3), 3);
            dueBlock(x, 0, 13, 8, 2, 100, 1, 13, 8);
            dueBlock(x, 1, 7, 8, 1, 100, 1, 7, 8);
            dueBox(x, 0, 0, 0, 5, 9, 5, 6);
            dueBox(x, 1, 1, 0, 11, 8, 7, 8);
            dueBox(x, 2, 1, 1, 8, 8, 7, 8);
        }
    }

    private void blockNumbers() {
        e.says("promise 10", "Of BLOCK b, what 0, 1: NATURAL width, height, 2: SIGNS, 3: PERCENT,"
                + " 4: 1 if it is LEGIBLE, 5, 6: its shrunk width, height.");
        ScribeBlocks x = laid("sign a 10 20; sign b 30 5; gap 2; least 90;", "a&a:b-b*b-a");
        dueBlock(x, 0, 30, 27, 3, 80, 0, 24, 21);
        dueBlock(x, 1, 62, 5, 2, 38, 0, 24, 1);
        dueBlock(x, 2, 10, 20, 1, 100, 1, 10, 20);

        e.says("promise 10", "-9 when there is none such.");
        e.dueAll("no what", -9, x.block(0, 7), x.block(0, 8), x.block(0, 10), x.block(0, 11));
        e.dueAll("no BLOCK", -9, x.block(3, 0), x.block(4, 4), x.block(11, 0), x.block(12, 0), x.block(13, 0));
        for (int far : Edges.FAR) {
            e.dueAll("far " + far, -9, x.block(far, 0), x.block(0, far), x.block(far, far));
        }
        x = e.blocksRight(Edges.times("a", 12, "-"), 12);
        e.due("the last", x.block(11, 0), 5);
        e.due("behind it", x.block(12, 0), -9);
        x = e.made(Edges.FIVES);
        e.due("no BLOCKS", x.block(0, 0), -9);
    }

    private void boxNumbers() {
        e.says("promise 11", "Of the k-th SIGN of the BLOCKS (as they stand in the text), what 0: which SIGN, 1: its BLOCK,"
                + " 2, 3: left and upper edge of its BOX, 4, 5: its width, height.");
        ScribeBlocks x = laid("sign a 20 20; sign b 6 4; sign c 2 2; gap 0; square 20;", "a&b-(b:c)*b-c");
        dueBox(x, 0, 0, 0, 0, 0, 20, 20);
        dueBox(x, 1, 1, 0, 17, 0, 3, 2);
        // 12 by 6: 4 to the right, 7 lower
        dueBox(x, 2, 1, 1, 4, 7, 6, 4);
        dueBox(x, 3, 2, 1, 6, 11, 2, 2);
        dueBox(x, 4, 1, 1, 10, 8, 6, 4);
        dueBox(x, 5, 2, 2, 9, 9, 2, 2);

        e.says("promise 11", "-9 when there is none such.");
        e.dueAll("no what", -9, x.box(0, 6), x.box(0, 7), x.box(0, 10));
        e.dueAll("no SIGN", -9, x.box(6, 0), x.box(7, 1), x.box(23, 0), x.box(24, 0), x.box(25, 0));
        for (int far : Edges.FAR) {
            e.dueAll("far " + far, -9, x.box(far, 0), x.box(0, far), x.box(far, far));
        }
        x = e.blocksRight(Edges.times("a", 24, ":"), 1);
        e.due("the last", x.box(23, 0), 0);
        e.due("behind it", x.box(24, 0), -9);
        x = e.made(Edges.FIVES);
        e.due("no BLOCKS", x.box(0, 0), -9);
    }

    private void face() {
        e.says("promise 12", "Facing left, or right (at first): 1 if it was otherwise, else 0.");
        ScribeBlocks x = new ScribeBlocks();
        e.due("right at first", x.face(false), 0);
        e.due("left", x.face(true), 1);
        e.due("left again", x.face(true), 0);
        e.due("right", x.face(false), 1);
        e.due("right again", x.face(false), 0);
        x = new ScribeBlocks();
        e.due("left from the first", x.face(true), 1);
        Harness.list(x, "sign a 4 4; sign b 5 5; gap 0; square 20;");
        Harness.blocks(x, "a*b");
        // told while it faces left: 9 wide, 5 to the right; a at 5 .. 9, b at 9 .. 14
        e.due("a", x.box(0, 2), 11);
        e.due("b", x.box(1, 2), 6);
        Harness.blocks(x, "b");
        e.due("it stays", x.face(true), 0);
        e.due("b alone, 7 .. 12", x.box(0, 2), 8);
        x.face(false);
        e.due("b alone", x.box(0, 2), 7);
    }
}
