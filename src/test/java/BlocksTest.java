/** Promises 9 to 12: BLOCKS with their FAULTS, their sizes, BOXES, and facing. */
public final class BlocksTest {
    private static final Harness H = new Harness();
    private static final String LIST = "sign a 10 20; sign b 9 5; sign c 1 1; sign d 60 60; sign e 30 7;"
            + "gap 2; square 24; least 40;";

    public static void main(String[] args) {
        faults();
        rooms();
        leastKind();
        thoseAheadStay();
        sizes();
        legible();
        places();
        inner();
        nested();
        facing();
        wrongNumbers();
        H.finish();
    }

    private static ScribeBlocks listed() {
        ScribeBlocks x = new ScribeBlocks();
        H.due("list", Harness.list(x, LIST), 8);
        return x;
    }

    private static void fault(String text, int kind, int place) {
        ScribeBlocks x = listed();
        H.due(text, Harness.blocks(x, text), -1);
        H.due(text + " KIND", x.fault(0), kind);
        H.due(text + " PLACE", x.fault(1), place);
        H.due(text + " BLOCKS", x.count(2), 0);
    }

    private static void right(String text, int many) {
        ScribeBlocks x = listed();
        H.due(text, Harness.blocks(x, text), many);
        H.due(text + " KIND", x.fault(0), 0);
        H.due(text + " PLACE", x.fault(1), -1);
        H.due(text + " BLOCKS", x.count(2), many);
    }

    private static void faults() {
        H.part("promise 9");
        right("a", 1);
        right(" \na ", 1);
        right("a-b", 2);
        right("((((a))))", 1);
        right("(a)*(b):(c)", 1);
        right("a&b:c&d*e", 1);
        right("a &\nb", 1);
        fault("", 1, 0);
        fault("  ", 1, 2);
        fault("-a", 1, 0);
        fault("a--b", 1, 2);
        fault("a-", 1, 2);
        fault("a*", 1, 2);
        fault("a:", 1, 2);
        fault("a&", 1, 2);
        fault("a&&b", 1, 2);
        fault("a&b&c", 1, 3);
        fault("a&(b)", 1, 2);
        fault("(a)&b", 1, 3);
        fault("a)", 1, 1);
        fault("(a", 1, 2);
        fault("(a-b)", 1, 2);
        fault("()", 1, 1);
        fault("(a))", 1, 3);
        fault("(a)(b)", 1, 3);
        fault("a(b)", 1, 1);
        fault("(a)b", 1, 3);
        fault("a b", 1, 2);
        fault("a;", 1, 1);
        fault("a5", 1, 1);
        fault("5", 1, 0);
        fault("a*B", 1, 2);
        fault("a*abcdefghijklm", 1, 2);
        fault("a\r", 1, 1);
        fault("x", 5, 0);
        fault("a:aa", 5, 2);
        fault("a&x", 5, 2);
        fault("(a*(x", 5, 4);
        fault("a*x**", 5, 2);
    }

    private static String times(String what, int many, String between) {
        StringBuilder text = new StringBuilder();
        for (int i = 0; i < many; i++) {
            text.append(i == 0 ? "" : between).append(what);
        }
        return text.toString();
    }

    private static void rooms() {
        H.part("ROOM of BLOCKS");
        right(times("a", 12, "-"), 12);
        fault(times("a", 13, "-"), 4, 24);
        fault(times("a", 12, "-") + "- (a)", 4, 25);
        fault(times("a", 12, "-") + "-", 1, 24);
        right(times("a", 24, "*"), 1);
        right(times("a", 24, ":"), 1);
        right(times("a&b", 12, "-"), 12);
        fault(times("a", 25, "*"), 4, 48);
        fault(times("a&b", 12, "-") + "*a", 4, 48);
        fault(times("a", 24, "*") + "&a", 4, 48);
        fault(times("a", 24, "*") + "*(a", 4, 49);
        fault("(((((a", 4, 4);
        fault("(((( (a", 4, 5);
        right("((((a))))*((((b))))", 1);
        fault("((((a)))*((b", 1, 12);
        fault("((((a)))*((((b", 4, 12);
        right(times("((((a))))", 24, "*"), 1);
    }

    private static void leastKind() {
        H.part("the least KIND of one TOKEN");
        fault(times("a", 12, "-") + "-x", 4, 24);
        fault(times("a", 24, "*") + "*x", 4, 48);
        fault(times("a", 12, "-") + "-:", 1, 24);
        fault(times("a", 24, "*") + "*5", 1, 48);
        fault("((((" + "(", 4, 4);
        fault("a((((((", 1, 1);
        fault("x-y", 5, 0);
        fault("a-x-*", 5, 2);
    }

    private static void thoseAheadStay() {
        H.part("BLOCKS ahead stay");
        ScribeBlocks x = listed();
        H.due("blocks", Harness.blocks(x, "a*b-c"), 2);
        H.due("blocks", Harness.blocks(x, "d-e-x"), -1);
        H.due("BLOCKS", x.count(2), 2);
        H.due("SIGNS", x.count(3), 3);
        H.due("width", x.block(0, 0), 21);
        H.due("SIGN", x.box(2, 0), 2);
        H.due("blocks", Harness.blocks(x, "d"), 1);
        H.due("BLOCKS", x.count(2), 1);
        H.due("SIGNS", x.count(3), 1);
        H.due("block behind", x.block(1, 0), -9);
        H.due("box behind", x.box(1, 0), -9);
    }

    private static void dueBlock(ScribeBlocks x, int b, int... want) {
        for (int what = 0; what < want.length; what++) {
            H.due("block(" + b + ", " + what + ")", x.block(b, what), want[what]);
        }
    }

    private static void dueBox(ScribeBlocks x, int k, int... want) {
        for (int what = 0; what < want.length; what++) {
            H.due("box(" + k + ", " + what + ")", x.box(k, what), want[what]);
        }
    }

    private static void sizes() {
        H.part("promise 10");
        ScribeBlocks x = listed();
        Harness.blocks(x, "a-a*b-a:b-d-a&d-a*b:c-(a*b):c-d*d");
        dueBlock(x, 0, 10, 20, 1, 100, 1, 10, 20);
        dueBlock(x, 1, 21, 20, 2, 100, 1, 21, 20);
        dueBlock(x, 2, 10, 27, 2, 88, 1, 8, 24);
        dueBlock(x, 3, 60, 60, 1, 40, 1, 24, 24);
        dueBlock(x, 4, 10, 20, 2, 100, 1, 10, 20);
        dueBlock(x, 5, 21, 20, 3, 100, 1, 21, 20);
        dueBlock(x, 6, 21, 23, 3, 100, 1, 21, 23);
        dueBlock(x, 7, 122, 60, 2, 19, 0, 24, 11);
    }

    private static void legible() {
        H.part("LEGIBLE");
        ScribeBlocks x = new ScribeBlocks();
        // 100 times 24 over 48 is just 50; over 49 it is 48
        Harness.list(x, "sign a 48 1; sign b 49 1; square 24; least 50;");
        Harness.blocks(x, "a-b");
        H.due("just", x.block(0, 4), 1);
        H.due("not", x.block(1, 4), 0);
        H.due("PERCENT", x.block(1, 3), 48);
        Harness.list(x, "sign a 24 24; sign b 25 1; square 24; least 100;");
        Harness.blocks(x, "a-b");
        H.due("of 100", x.block(0, 4), 1);
        H.due("of 96", x.block(1, 4), 0);
    }

    private static void places() {
        H.part("promise 11");
        ScribeBlocks x = listed();
        // b is 5 high of 20: lower by 7; the block is 21 by 20 in 24: to the right by 1, lower by 2
        Harness.blocks(x, "a*b-a:b-d*c");
        dueBox(x, 0, 0, 0, 1, 2, 10, 20);
        dueBox(x, 1, 1, 0, 13, 9, 9, 5);
        // 10 by 27, shrunk by 24 over 27
        dueBox(x, 2, 0, 1, 8, 0, 8, 17);
        dueBox(x, 3, 1, 1, 8, 19, 8, 4);
        // 63 by 60: c at 62, 29 is lost in the shrinking
        dueBox(x, 4, 3, 2, 0, 1, 22, 22);
        dueBox(x, 5, 2, 2, 23, 12, 0, 0);
    }

    private static void inner() {
        H.part("the SIGN behind &");
        ScribeBlocks x = listed();
        // d halved is 30 by 30, its right edge at 10: its left one at -20, cut towards 0 when shrunk
        Harness.blocks(x, "a&d-e&c-a&b:d");
        dueBlock(x, 0, 10, 20, 2, 100, 1, 10, 20);
        dueBox(x, 1, 3, 0, -13, 2, 30, 30);
        dueBox(x, 3, 2, 1, 23, 9, 0, 0);
        // a over d: 60 by 82; a to the right by 25; b halved 4 by 2 at 31
        dueBlock(x, 2, 60, 82, 3, 29, 0, 17, 24);
        dueBox(x, 4, 0, 2, 10, 0, 2, 5);
        dueBox(x, 5, 1, 2, 12, 0, 1, 0);
        dueBox(x, 6, 3, 2, 3, 6, 17, 17);
        Harness.list(x, "sign a 1 60; sign b 60 3; square 25;");
        Harness.blocks(x, "a&b");
        // the block is 1 by 60, shrunk 0 by 25, to the right by 12; -29 * 25 / 60 is -12.08
        dueBox(x, 1, 1, 0, 0, 0, 12, 0);
        x.face(true);
        H.due("facing left", x.box(1, 2), 13);
    }

    private static void nested() {
        H.part("parts in parts");
        ScribeBlocks x = new ScribeBlocks();
        Harness.list(x, "sign a 4 3; sign b 4 8; sign c 4 13; gap 0; square 99;");
        // each level cuts its own half: a is lower by 2 in (a*b), that by 2 beside c: not by 5
        Harness.blocks(x, "(a*b)*c-a*b*c");
        int upper = (99 - 13) / 2;
        H.due("a in (a*b)", x.box(0, 3), upper + 4);
        H.due("b in (a*b)", x.box(1, 3), upper + 2);
        H.due("a beside", x.box(3, 3), upper + 5);
        H.due("b beside", x.box(4, 3), upper + 2);
        H.due("c", x.box(5, 3), upper);
        Harness.list(x, "sign a 5 1; sign b 1 5; gap 1; square 99;");
        Harness.blocks(x, "((((a:b)*a):b)*a):b-a*b:a*b");
        dueBlock(x, 0, 17, 19, 6);
        dueBlock(x, 1, 13, 7, 4);
    }

    private static void facing() {
        H.part("promise 12");
        ScribeBlocks x = listed();
        H.due("face(false)", x.face(false), 0);
        Harness.blocks(x, "a*b");
        H.due("right", x.box(0, 2), 1);
        H.due("face(true)", x.face(true), 1);
        H.due("a", x.box(0, 2), 13);
        H.due("b", x.box(1, 2), 2);
        H.due("upper edge", x.box(1, 3), 9);
        H.due("width", x.box(1, 4), 9);
        H.due("face(true)", x.face(true), 0);
        H.due("still", x.box(0, 2), 13);
        Harness.blocks(x, "b*a");
        H.due("the next too", x.box(0, 2), 24 - 1 - 9);
        H.due("face(false)", x.face(false), 1);
        H.due("right", x.box(0, 2), 1);
    }

    private static void wrongNumbers() {
        H.part("-9");
        ScribeBlocks x = listed();
        Harness.blocks(x, "a*b-c");
        int[] whats = {-1, 7, 10, Integer.MIN_VALUE, Integer.MAX_VALUE};
        for (int what : whats) {
            H.due("block(0, " + what + ")", x.block(0, what), -9);
            H.due("box(0, " + what + ")", x.box(0, what), -9);
        }
        H.due("box(0, 6)", x.box(0, 6), -9);
        int[] behind = {-1, 3, 12, 24, Integer.MIN_VALUE, Integer.MAX_VALUE};
        for (int k : behind) {
            H.due("block(" + k + ", 0)", x.block(k, 0), -9);
            H.due("box(" + k + ", 0)", x.box(k, 0), -9);
        }
        H.due("block(2, 0)", x.block(2, 0), -9);
    }
}
