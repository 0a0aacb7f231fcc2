/** Everything as large as the document lets it be: 40 SIGNS, 40 TERMS, rows of 24, 12 TERMS said. */
public final class LimitsTest {
    private static final Harness H = new Harness();

    public static void main(String[] args) {
        H.watch(120);
        manyAlike();
        bodiesWithoutKind();
        rowsOfTwentyFour();
        lastIsAnIdea();
        groupsOfTwentyFour();
        longestSpellings();
        columns();
        blocksOfTwentyFour();
        H.finish();
    }

    private static String name(int s) {
        return s < 26 ? "" + (char) ('a' + s) : "z" + (char) ('a' + s - 26);
    }

    private static ScribeBlocks fortyTerms(String list, String row) {
        ScribeBlocks x = new ScribeBlocks();
        Harness.list(x, list);
        H.due("FAULT of " + list, x.fault(0), 0);
        for (int t = 0; t < 40; t++) {
            H.due("term " + t, Harness.term(x, name(t) + " " + row), t);
        }
        return x;
    }

    private static void manyAlike() {
        H.part("40 SIGNS alike");
        StringBuilder list = new StringBuilder();
        for (int s = 0; s < 40; s++) {
            list.append("sign ").append(name(s)).append(40 - s).append(" 1sounds a;");
        }
        ScribeBlocks x = fortyTerms(list.toString(), "aa");
        for (int t = 0; t < 40; t++) {
            H.due("bestSign ahead of best", x.bestSign(t, 1), 39);
            H.due("best", x.best(t), 2);
            H.due("spellings", x.spellings(t), 1600);
        }
        H.due("write", Harness.write(x, "zn zn"), 2);
        H.due("ways", x.ways(), 40);
        H.due("read", x.read(), 1);
        H.due("spells", x.spells(39), 1);
        x.say(39);
        H.due("fill", x.fill(1), -3);
        Harness.term(x, "more a");
        H.due("TERMS", x.count(1), 40);
        x = new ScribeBlocks();
        Harness.list(x, list.toString());
        Harness.term(x, "t a");
        x.say(0);
        H.due("fill", x.fill(1), 1);
        H.due("filled", x.filled(0, 10), 39);
        Harness.value(x, "b", 39, 0, 0);
        Harness.write(x, "zn");
        H.due("waysOn", x.waysOn(0, 0), 0);
        H.due("ways", x.ways(), 1);
    }

    /** 40 SIGNS of a for eight SOUNDS are BODIES without number, but no SIGN is of the KIND. */
    private static void bodiesWithoutKind() {
        H.part("many BODIES, no SIGN of the KIND");
        StringBuilder list = new StringBuilder();
        for (int s = 0; s < 39; s++) {
            list.append("sign ").append(name(s)).append("1 1sounds a;");
        }
        ScribeBlocks x = fortyTerms(list + "sign kk1 1kind k;", "aaaaaaaa l");
        Harness.term(x, "behind a");
        for (int t = 0; t < 12; t++) {
            H.due("spellings", x.spellings(t), 0);
            H.due("best", x.best(t), -1);
            H.due("bestSign", x.bestSign(t, 0), -1);
            H.due("say", x.say(t), t + 1);
            H.due("fill", x.fill(t + 1), -1);
            H.due("fills", x.fills(), 0);
        }
        Harness.write(x, "a ".repeat(8) + "kk");
        H.due("ways", x.ways(), 0);
        H.due("spells", x.spells(39), 0);
        Harness.blocks(x, "a" + "-a".repeat(8));
        H.due("judge", x.judge(), 2000);
        // by another LIST it has SPELLINGS: what was found is forgotten
        Harness.list(x, "sign a 1 1 sounds a; sign l 1 1 kind l; sign m 1 1 kind l;");
        H.due("spellings", x.spellings(0), 2);
        H.due("fill", x.fill(36), 108);
        H.due("filled", x.filled(11, 18), 1);
        H.due("fills", x.fills(), 1);
        Harness.list(x, list.toString());
        H.due("fills", x.fills(), 0);
        H.due("fill", x.fill(36), -1);
    }

    private static void rowsOfTwentyFour() {
        H.part("24 SIGNS, 24 TERMS");
        ScribeBlocks x = fortyTerms("sign a 1 1 sounds a; sign b 1 1 sounds b;", "a");
        H.due("write", Harness.write(x, "a ".repeat(24)), 24);
        H.due("read", x.read(), 24);
        for (int i = 0; i < 24; i++) {
            H.due("TERM " + i, x.readTerm(i, 0), 0);
            H.due("length " + i, x.readTerm(i, 1), 1);
        }
        H.due("behind", x.readTerm(24, 0), -1);
        H.due("ways", x.ways(), -3);
        H.due("write", Harness.write(x, "a ".repeat(23) + "b"), 24);
        H.due("read", x.read(), -1);
        H.due("ways", x.ways(), 0);
        H.due("write", Harness.write(x, "b " + "a ".repeat(23)), 24);
        H.due("read", x.read(), -1);
        H.due("ways", x.ways(), 0);
    }

    private static void lastIsAnIdea() {
        H.part("an IDEA at the end of 24");
        ScribeBlocks x = fortyTerms("sign i 1 1 means zn; sign j 1 1 means zm; sign k 1 1 sounds a;", "a");
        Harness.write(x, "i ".repeat(24));
        H.due("ways", x.ways(), 1);
        H.due("read", x.read(), 24);
        H.due("TERM", x.readTerm(23, 0), 39);
        Harness.write(x, "j ".repeat(23) + "k");
        H.due("ways", x.ways(), 41);
        H.due("read", x.read(), 23);
        H.due("length", x.readTerm(22, 1), 2);
        Harness.blocks(x, "i*" + "i*".repeat(22) + "i");
        for (int i = 0; i < 12; i++) {
            x.say(39);
        }
        H.due("judge", x.judge(), 3000);
    }

    private static void groupsOfTwentyFour() {
        H.part("24 SIGNS in BLOCKS");
        ScribeBlocks x = new ScribeBlocks();
        Harness.list(x, "sign a 8 8; sign z 9 1; square 8; least 100; gap 0;");
        Harness.write(x, "a ".repeat(24));
        H.due("group", x.group(), 24);
        H.due("SHAPE", x.grouped(23, 0), 0);
        H.due("PERCENT", x.grouped(23, 1), 100);
        H.due("behind", x.grouped(24, 0), -1);
        Harness.write(x, "a ".repeat(23) + "z");
        H.due("the last isn't LEGIBLE", x.group(), -1);
        Harness.write(x, "z " + "a ".repeat(23));
        H.due("the first isn't LEGIBLE", x.group(), -1);
        Harness.list(x, "sign a 3 3; sign z 9 9; square 8; least 88; gap 0;");
        Harness.write(x, "a ".repeat(23) + "z");
        H.due("group", x.group(), 7);
        H.due("the last alone", x.grouped(6, 0), 0);
        H.due("its PERCENT", x.grouped(6, 1), 88);
        Harness.list(x, "sign a 3 3; sign z 5 9; square 8; least 88; gap 0;");
        // five of four, (a:a)*z, and the last z alone
        Harness.write(x, "a ".repeat(22) + "z z");
        H.due("group", x.group(), 7);
        H.due("SHAPE", x.grouped(5, 0), 6);
        H.due("the last alone", x.grouped(6, 0), 0);
    }

    private static void longestSpellings() {
        H.part("nine SIGNS");
        ScribeBlocks x = new ScribeBlocks();
        Harness.list(x, "sign a 8 8 sounds ab; sign b 8 8 sounds b; sign k 8 8 kind k; square 8; least 100; echo 3;");
        Harness.term(x, "t abababab k");
        x.say(0);
        // four of ab with none to three ECHOES, and the KIND: five to eight SIGNS
        H.due("spellings", x.spellings(0), 15);
        H.due("fills", x.fills(), 4);
        H.due("fill", x.fill(8), 512);
        int[] row = {0, 0, 1, 0, 1, 0, 1, 2};
        for (int k = 0; k < row.length; k++) {
            H.due("SIGN " + k, x.filled(0, 10 + k), row[k]);
        }
        Harness.write(x, "a b a b a b a b k");
        H.due("a fourth ECHO", x.spells(0), 0);
        Harness.write(x, "a b a a b a b k");
        H.due("three", x.spells(0), 1);
        Harness.list(x, "sign a 8 8 sounds a; sign b 8 8 sounds b; sign k 8 8 kind k; square 8; least 100;");
        H.due("fill", x.fill(9), 576);
        H.due("SIGNS", x.filled(0, 1), 9);
        H.due("the last", x.filled(0, 18), 2);
        H.due("behind", x.filled(0, 19), -1);
        Harness.write(x, "a b a b a b a b k");
        H.due("nine", x.spells(0), 1);
    }

    private static void columns() {
        H.part("144 squares");
        ScribeBlocks x = new ScribeBlocks();
        Harness.list(x, "sign a 8 8 sounds a; square 8; least 100;");
        Harness.term(x, "t a");
        for (int i = 1; i <= 12; i++) {
            x.say(0);
            for (int n = 1; n <= 144; n++) {
                H.due("fill(" + n + ") of " + i, x.fill(n), n == i ? 64 * i : -1);
            }
            H.due("fills", x.fills(), 1);
        }
    }

    private static void blocksOfTwentyFour() {
        H.part("24 SIGNS in one BLOCK");
        ScribeBlocks x = new ScribeBlocks();
        Harness.list(x, "sign a 60 60; gap 9; square 8;");
        H.due("beside", Harness.blocks(x, "a" + "*a".repeat(23)), 1);
        H.due("width", x.block(0, 0), 24 * 60 + 23 * 9);
        H.due("height", x.block(0, 1), 60);
        H.due("PERCENT", x.block(0, 3), 0);
        H.due("SIGNS", x.block(0, 2), 24);
        H.due("the last", x.box(23, 2), 23 * 69 * 8 / 1647);
        H.due("over", Harness.blocks(x, "a" + ":a".repeat(23)), 1);
        H.due("height", x.block(0, 1), 1647);
        H.due("both", Harness.blocks(x, "a:a" + "*a:a".repeat(11)), 1);
        H.due("width", x.block(0, 0), 12 * 60 + 11 * 9);
        H.due("height", x.block(0, 1), 129);
        H.due("within", Harness.blocks(x, "a&a" + "*a&a".repeat(11)), 1);
        H.due("SIGNS", x.count(3), 24);
        H.due("the last", x.box(23, 0), 0);
        H.due("behind", x.box(24, 0), -9);
    }
}
