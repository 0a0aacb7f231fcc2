/** Promises 1 to 8: a new object, THE TAPE, THE LIST with its FAULTS, SIGNS and their names. */
public final class ListTest {
    private static final Harness H = new Harness();

    public static void main(String[] args) {
        newObject();
        feeding();
        ending();
        emptying();
        listing();
        rules();
        listFaults();
        placesOfFaults();
        bounds();
        rooms();
        whatAListForgets();
        signs();
        names();
        H.finish();
    }

    private static void newObject() {
        H.part("promise 1");
        ScribeBlocks x = new ScribeBlocks();
        for (int what = 0; what < 8; what++) {
            H.due("count(" + what + ")", x.count(what), 0);
        }
        int[] untold = {0, 1, 24, 50, 1};
        for (int what = 0; what < untold.length; what++) {
            H.due("rule(" + what + ")", x.rule(what), untold[what]);
        }
        H.due("fault(0)", x.fault(0), 0);
        H.due("fault(1)", x.fault(1), -1);
        H.due("ways", x.ways(), -4);
        H.due("judge", x.judge(), -4);
        H.due("face(false)", x.face(false), 0);
    }

    private static void feeding() {
        H.part("promise 2");
        ScribeBlocks x = new ScribeBlocks();
        for (int i = 1; i <= 40; i++) {
            H.due("feed " + i, x.feed(0x20202020, 0x20202020, 0x20202020, 0x20202020, 0x20202020), i * 20);
        }
        H.due("feed 41", x.feed(0, 0, 0, 0, 0), -3);
        H.due("bytes", x.count(7), 800);
        H.due("end(799)", x.end(799), 799);
        H.due("feed with 799", x.feed(0, 0, 0, 0, 0), -3);
        H.due("end(780)", x.end(780), 780);
        H.due("feed with 780", x.feed(0x20202020, 0x20202020, 0x20202020, 0x20202020, 0x20202020), 800);
        H.due("a LIST of 800 blanks", x.list(), 0);
        // the order of the bytes: s i g n, the highest first
        x.feed(0x7369676e, 0x20612031, 0x20323b0a, 0x7369676e, 0x20622033);
        x.feed(0x20343b20, 0x20202020, 0x20202020, 0x20202020, 0x20202020);
        H.due("list", x.list(), 2);
        H.due("sign(1, 1)", x.sign(1, 1), 4);
        // bytes of 128 and more are no TOKENS
        x.feed(0x20f36967, 0x6e202020, 0x20202020, 0x20202020, 0x20202020);
        H.due("high byte", x.list(), -1);
        H.due("high byte's place", x.fault(1), 1);
        x.feed(0x8a202020, 0x20202020, 0x20202020, 0x20202020, 0x20202020);
        H.due("138 is no blank", x.list(), -1);
        H.due("138's place", x.fault(1), 0);
    }

    private static void ending() {
        H.part("promise 3");
        ScribeBlocks x = new ScribeBlocks();
        H.due("end(0)", x.end(0), 0);
        H.due("end(1)", x.end(1), -1);
        H.due("end(-1)", x.end(-1), -1);
        x.feed(1, 2, 3, 4, 5);
        H.due("end(21)", x.end(21), -1);
        H.due("bytes", x.count(7), 20);
        H.due("end(20)", x.end(20), 20);
        H.due("end(7)", x.end(7), 7);
        H.due("end(8)", x.end(8), -1);
        H.due("end(min)", x.end(Integer.MIN_VALUE), -1);
        H.due("end(max)", x.end(Integer.MAX_VALUE), -1);
        H.due("bytes", x.count(7), 7);
    }

    private static void emptying() {
        H.part("THE TAPE is emptied");
        ScribeBlocks x = new ScribeBlocks();
        String[] texts = {"sign a 1 1;", "?"};
        for (String text : texts) {
            for (int call = 0; call < 7; call++) {
                Harness.tape(x, text);
                switch (call) {
                    case 0 -> x.list();
                    case 1 -> x.named();
                    case 2 -> x.blocks();
                    case 3 -> x.term();
                    case 4 -> x.write();
                    case 5 -> x.value(0, 0, 0);
                    default -> x.value(-1, 0, 0);
                }
                H.due(text + " call " + call, x.count(7), 0);
            }
        }
        Harness.tape(x, "abc");
        x.ways();
        x.fault(0);
        x.fill(1);
        H.due("others leave it", x.count(7), 3);
    }

    private static void listing() {
        H.part("promise 4");
        ScribeBlocks x = new ScribeBlocks();
        H.due("empty", Harness.list(x, ""), 0);
        H.due("blanks", Harness.list(x, " \n \n"), 0);
        H.due("one", Harness.list(x, "sign a 1 60;"), 1);
        H.due("blanks around", Harness.list(x, "\n sign  a\n1 60 ; gap 0;\n"), 2);
        H.due("no blanks", Harness.list(x, "sign a1 60;sign b2 3sounds abc;gap0;"), 3);
        H.due("height of b", x.sign(1, 1), 3);
        H.due("sounds of b", x.sign(1, 3), 3);
        H.due("zeros ahead", Harness.list(x, "sign a 0001 060;"), 1);
        H.due("width", x.sign(0, 0), 1);
        H.due("height", x.sign(0, 1), 60);
        H.due("names like the clauses'",
                Harness.list(x, "sign sign 1 1 means sign; sign gap 1 1 kind kind; sign sounds 1 1 sounds a;"), 3);
        H.due("value", x.sign(0, 2), 2);
        H.due("value", x.sign(1, 2), 3);
        H.due("value", x.sign(2, 2), 1);
        H.due("a name of 12 letters", Harness.list(x, "sign abcdefghijkl 1 1;"), 1);
        H.due("FAULT", Harness.list(x, "sign b 1 1; gap 3; oh"), -1);
        H.due("it stays: SIGNS", x.rule(0), 1);
        H.due("it stays: gap", x.rule(1), 1);
        H.due("it stays: its name", Harness.named(x, "abcdefghijkl"), 0);
        H.due("rules go back", Harness.list(x, "gap 3; square 40;"), 2);
        H.due("rules go back", Harness.list(x, "least 70;"), 1);
        H.due("gap", x.rule(1), 1);
        H.due("square", x.rule(2), 24);
        H.due("least", x.rule(3), 70);
    }

    private static void rules() {
        H.part("promise 6");
        ScribeBlocks x = new ScribeBlocks();
        H.due("list", Harness.list(x, "echo 3; least 100; square 99; gap 9; sign a 1 1;"), 5);
        int[] want = {1, 9, 99, 100, 3};
        for (int what = 0; what < 5; what++) {
            H.due("rule(" + what + ")", x.rule(what), want[what]);
        }
        H.due("list", Harness.list(x, "echo 0; least 1; square 8; gap 0;"), 4);
        int[] lowest = {0, 0, 8, 1, 0};
        for (int what = 0; what < 5; what++) {
            H.due("rule(" + what + ")", x.rule(what), lowest[what]);
        }
        int[] others = {-1, 5, 10, Integer.MIN_VALUE, Integer.MAX_VALUE};
        for (int what : others) {
            H.due("rule(" + what + ")", x.rule(what), -9);
        }
    }

    private static void fault(String text, int kind, int place) {
        ScribeBlocks x = new ScribeBlocks();
        H.due(text, Harness.list(x, text), -1);
        H.due(text + " KIND", x.fault(0), kind);
        H.due(text + " PLACE", x.fault(1), place);
    }

    private static void listFaults() {
        H.part("FAULTS of THE LIST");
        fault("sign", 1, 4);
        fault("sign  ", 1, 6);
        fault("; ", 1, 0);
        fault("sine a 1 1;", 1, 0);
        fault("signs a 1 1;", 1, 0);
        fault("12", 1, 0);
        fault("sign 5 5 5;", 1, 5);
        fault("sign a b 5;", 1, 7);
        fault("sign a 5;", 1, 8);
        fault("sign a 5 5", 1, 10);
        fault("sign a 5 5 5;", 1, 11);
        fault("sign a 5 5 tones a;", 1, 11);
        fault("sign a 5 5 sounds;", 1, 17);
        fault("sign a 5 5 sounds 5;", 1, 18);
        fault("sign a 5 5 sounds a b;", 1, 20);
        fault("sign a 5 5 sounds a", 1, 19);
        fault("sign a 5 5 means;", 1, 16);
        fault("sign a 5 5 kind ;", 1, 16);
        fault("sign a 5 5 kind a b;", 1, 18);
        fault("gap;", 1, 3);
        fault("gap a;", 1, 4);
        fault("gap 1", 1, 5);
        fault("gap 1 2;", 1, 6);
        fault("gap 1;;", 1, 6);
        fault("gap\t1;", 1, 3);
        fault("sign abcdefghijklm 1 1;", 1, 5);
        fault("sign a 5 5 sounds abcdefghijklm;", 1, 18);
        fault("sign a 5 5 means abcdefghijklm;", 1, 17);
        fault("sign a 00001 1;", 1, 7);
        fault("gap 00001;", 1, 4);
        fault("sign a 5 5 sounds q;", 1, 18);
        fault("sign a 5 5 sounds abcq;", 1, 18);
        fault("sign a 5 5 sounds abcdefghijkq;", 1, 18);
        fault("sign A 5 5;", 1, 5);
        fault("sign a 5 5, ", 1, 10);
        fault("sign a -5 5;", 1, 7);
        fault("gap 1; gap 1;", 3, 7);
        fault("gap 1; gap", 3, 7);
        fault("echo 1; least 5; echo 1;", 3, 17);
        fault("sign a 5 5; sign a", 3, 17);
        fault("sign a 5 5; sign b 5 5; sign b x", 3, 29);
    }

    private static void placesOfFaults() {
        H.part("promise 5");
        ScribeBlocks x = new ScribeBlocks();
        H.due("list", Harness.list(x, "oh;"), -1);
        H.due("KIND", x.fault(0), 1);
        H.due("PLACE", x.fault(1), 0);
        H.due("fault(2)", x.fault(2), -1);
        H.due("fault(-1)", x.fault(-1), -1);
        Harness.named(x, "?");
        Harness.write(x, "?");
        Harness.term(x, "?");
        H.due("others leave it", x.fault(0), 1);
        H.due("list", Harness.list(x, "sign a 1 1;"), 1);
        H.due("KIND", x.fault(0), 0);
        H.due("PLACE", x.fault(1), -1);
        H.due("blocks", Harness.blocks(x, "a-b"), -1);
        H.due("KIND", x.fault(0), 5);
        H.due("PLACE", x.fault(1), 2);
        H.due("blocks", Harness.blocks(x, "a"), 1);
        H.due("KIND", x.fault(0), 0);
        H.due("PLACE", x.fault(1), -1);
    }

    private static void bounds() {
        H.part("bounds of THE LIST");
        String[] rule = {"gap", "square", "least", "echo"};
        int[] lowest = {0, 8, 1, 0};
        int[] highest = {9, 99, 100, 3};
        for (int r = 0; r < 4; r++) {
            ScribeBlocks x = new ScribeBlocks();
            H.due("lowest", Harness.list(x, rule[r] + " " + lowest[r] + ";"), 1);
            H.due("lowest", x.rule(r + 1), lowest[r]);
            H.due("highest", Harness.list(x, rule[r] + " " + highest[r] + ";"), 1);
            H.due("highest", x.rule(r + 1), highest[r]);
            fault(rule[r] + " " + (highest[r] + 1) + ";", 2, rule[r].length() + 1);
            fault(rule[r] + " 9999", 2, rule[r].length() + 1);
            if (lowest[r] > 0) {
                fault(rule[r] + " " + (lowest[r] - 1) + ";", 2, rule[r].length() + 1);
            }
        }
        fault("sign a 0 5;", 2, 7);
        fault("sign a 61 5;", 2, 7);
        fault("sign a 5 0;", 2, 9);
        fault("sign a 5 61;", 2, 9);
        fault("sign a 5 5 sounds abcd;", 2, 18);
        fault("sign a 5 5 sounds abcdefghijkl;", 2, 18);
        ScribeBlocks x = new ScribeBlocks();
        H.due("60 and 1", Harness.list(x, "sign a 60 1; sign b 1 60 sounds pon;"), 2);
        H.due("SOUND p", x.sign(1, 10), 15);
        H.due("SOUND o", x.sign(1, 11), 14);
        H.due("SOUND n", x.sign(1, 12), 13);
    }

    static String many(int signs) {
        StringBuilder text = new StringBuilder();
        for (int s = 0; s < signs; s++) {
            text.append("sign ").append(name(s)).append(" 1 1;");
        }
        return text.toString();
    }

    static String name(int s) {
        return "" + (char) ('a' + s / 20) + (char) ('a' + s % 20);
    }

    private static void rooms() {
        H.part("ROOM of THE LIST");
        ScribeBlocks x = new ScribeBlocks();
        H.due("40 SIGNS", Harness.list(x, many(40)), 40);
        H.due("SIGNS", x.rule(0), 40);
        H.due("the last", x.sign(39, 0), 1);
        H.due("its name", Harness.named(x, name(39)), 39);
        H.due("and rules", Harness.list(x, many(40) + "gap 1;square 8;least 1;echo 1;"), 44);
        fault(many(40) + " sign a", 4, many(40).length() + 1);
        fault(many(41), 4, many(40).length());
        fault(many(40) + "sine", 1, many(40).length());
    }

    private static void whatAListForgets() {
        H.part("promise 4, what goes");
        ScribeBlocks x = new ScribeBlocks();
        String text = "sign a 5 5 sounds a; sign b 5 5 sounds b;";
        Harness.list(x, text);
        Harness.term(x, "one a");
        x.say(0);
        Harness.blocks(x, "a*b");
        Harness.write(x, "a a");
        Harness.value(x, "b", 0, 5, 500);
        H.due("read", x.read(), 2);
        H.due("group", x.group(), 1);
        H.due("fill", x.fill(1), 25);
        x.face(true);
        H.due("a FAULT", Harness.list(x, "sign"), -1);
        H.due("BLOCKS stay", x.count(2), 1);
        H.due("WRITTEN stays", x.count(4), 2);
        H.due("VALUES stay", x.count(6), 1);
        H.due("readTerm stays", x.readTerm(0, 0), 0);
        H.due("grouped stays", x.grouped(0, 0), 1);
        H.due("filled stays", x.filled(0, 0), 1);
        H.due("day stays", Harness.value(x, "b", 0, 5, 499), -2);
        H.due("a LIST", Harness.list(x, text), 2);
        H.due("BLOCKS", x.count(2), 0);
        H.due("SIGNS of BLOCKS", x.count(3), 0);
        H.due("block", x.block(0, 0), -9);
        H.due("box", x.box(0, 0), -9);
        H.due("WRITTEN", x.count(4), 0);
        H.due("written", x.written(0), -1);
        H.due("ways", x.ways(), -4);
        H.due("VALUES", x.count(6), 0);
        H.due("readTerm", x.readTerm(0, 0), -1);
        H.due("grouped", x.grouped(0, 0), -1);
        H.due("filled", x.filled(0, 0), -1);
        H.due("TERMS stay", x.count(1), 1);
        H.due("PASSAGE stays", x.count(5), 1);
        H.due("facing stays", x.face(true), 0);
        H.due("days begin again", Harness.value(x, "b", 0, 5, 0), 1);
    }

    private static void signs() {
        H.part("promise 7");
        ScribeBlocks x = new ScribeBlocks();
        Harness.list(x, "sign a 3 4; sign b 5 6 sounds cap; sign c 7 8 means cap; sign d 9 10 kind cap;"
                + "sign e 1 1 sounds d;");
        int[][] want = {{3, 4, 0, 0}, {5, 6, 1, 3}, {7, 8, 2, 0}, {9, 10, 3, 0}, {1, 1, 1, 1}};
        for (int s = 0; s < 5; s++) {
            for (int what = 0; what < 4; what++) {
                H.due("sign(" + s + ", " + what + ")", x.sign(s, what), want[s][what]);
            }
        }
        H.due("SOUND 0", x.sign(1, 10), 2);
        H.due("SOUND 1", x.sign(1, 11), 0);
        H.due("SOUND 2", x.sign(1, 12), 15);
        H.due("SOUND 3", x.sign(1, 13), -9);
        H.due("SOUND of one", x.sign(4, 10), 3);
        H.due("SOUND of one", x.sign(4, 11), -9);
        H.due("no SOUND", x.sign(0, 10), -9);
        H.due("no SOUND of an IDEA", x.sign(2, 10), -9);
        int[] others = {-1, 4, 9, Integer.MIN_VALUE, Integer.MAX_VALUE};
        for (int other : others) {
            H.due("what " + other, x.sign(1, other), -9);
        }
        H.due("sign(-1)", x.sign(-1, 0), -9);
        H.due("sign(5)", x.sign(5, 0), -9);
        H.due("sign(min)", x.sign(Integer.MIN_VALUE, 0), -9);
        H.due("sign(max)", x.sign(Integer.MAX_VALUE, 0), -9);
        Harness.list(x, "sign a 3 4; sign b 5 6;");
        H.due("no value is left over", x.sign(1, 3), 0);
        H.due("no value is left over", x.sign(1, 2), 0);
        H.due("no value is left over", x.sign(1, 10), -9);
    }

    private static void names() {
        H.part("promise 8");
        ScribeBlocks x = new ScribeBlocks();
        Harness.list(x, "sign a 3 4; sign aa 5 6; sign abcdefghijkl 7 8;");
        H.due("a", Harness.named(x, "a"), 0);
        H.due("aa", Harness.named(x, "aa"), 1);
        H.due("blanks", Harness.named(x, " aa\n"), 1);
        H.due("12 letters", Harness.named(x, "abcdefghijkl"), 2);
        H.due("13 letters", Harness.named(x, "abcdefghijklm"), -1);
        H.due("none", Harness.named(x, "aaa"), -1);
        H.due("two", Harness.named(x, "a a"), -1);
        H.due("more", Harness.named(x, "a;"), -1);
        H.due("nothing", Harness.named(x, ""), -1);
        H.due("nothing after something", Harness.named(x, " "), -1);
        H.due("number", Harness.named(x, "5"), -1);
        H.due("large", Harness.named(x, "A"), -1);
    }
}
