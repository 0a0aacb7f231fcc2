/** Promises 13 to 17: TERMS and their SPELLINGS. */
public final class TermsTest {
    private static final Harness H = new Harness();

    public static void main(String[] args) {
        terms();
        rooms();
        about();
        ideasAndTails();
        echoes();
        twoWaysOneSpelling();
        kinds();
        hundredThousand();
        best();
        wrongNumbers();
        H.finish();
    }

    private static ScribeBlocks listed(String text) {
        ScribeBlocks x = new ScribeBlocks();
        Harness.list(x, text);
        H.due("list " + text, x.fault(0), 0);
        return x;
    }

    private static void terms() {
        H.part("promise 13");
        ScribeBlocks x = new ScribeBlocks();
        H.due("term", Harness.term(x, "man abc"), 0);
        H.due("term", Harness.term(x, " wing\nabcdefgh  bird "), 1);
        H.due("12 letters", Harness.term(x, "abcdefghijkl ponm abcdefghijkl"), 2);
        H.due("name alone", Harness.term(x, "only"), -1);
        H.due("nothing", Harness.term(x, ""), -1);
        H.due("9 SOUNDS", Harness.term(x, "x abcdefghi"), -1);
        H.due("q", Harness.term(x, "x abq"), -1);
        H.due("13 letters", Harness.term(x, "abcdefghijklm a"), -1);
        H.due("13 letters", Harness.term(x, "x a abcdefghijklm"), -1);
        H.due("four", Harness.term(x, "x a b c"), -1);
        H.due("number", Harness.term(x, "x 5"), -1);
        H.due("number", Harness.term(x, "x a 5"), -1);
        H.due("mark", Harness.term(x, "x a;"), -1);
        H.due("mark", Harness.term(x, "; x a"), -1);
        H.due("large", Harness.term(x, "X a"), -1);
        H.due("told already", Harness.term(x, "man b bird"), -4);
        H.due("told already, but no TERM", Harness.term(x, "man q"), -1);
        H.due("TERMS", x.count(1), 3);
        H.due("the first stays", x.about(0, 0), 3);
        H.due("next", Harness.term(x, "x a"), 3);
    }

    private static void rooms() {
        H.part("40 TERMS");
        ScribeBlocks x = new ScribeBlocks();
        for (int t = 0; t < 40; t++) {
            H.due("term " + t, Harness.term(x, ListTest.name(t) + " a"), t);
        }
        H.due("the 41st", Harness.term(x, "more a"), -3);
        H.due("told already", Harness.term(x, ListTest.name(39) + " a"), -4);
        H.due("no TERM", Harness.term(x, "more"), -1);
        H.due("TERMS", x.count(1), 40);
        H.due("the last", x.about(39, 0), 1);
        H.due("the last", x.spellings(39), 0);
        H.due("behind", x.about(40, 0), -9);
    }

    private static void about() {
        H.part("promise 14");
        ScribeBlocks x = new ScribeBlocks();
        Harness.term(x, "m pabcdefp");
        Harness.term(x, "n b kin");
        H.due("SOUNDS", x.about(0, 0), 8);
        H.due("no KIND", x.about(0, 1), 0);
        int[] row = {15, 0, 1, 2, 3, 4, 5, 15, -9};
        for (int i = 0; i < row.length; i++) {
            H.due("SOUND " + i, x.about(0, 10 + i), row[i]);
        }
        H.due("SOUNDS", x.about(1, 0), 1);
        H.due("KIND", x.about(1, 1), 1);
        H.due("SOUND", x.about(1, 10), 1);
        H.due("SOUND", x.about(1, 11), -9);
        int[] whats = {-1, 2, 9, Integer.MIN_VALUE, Integer.MAX_VALUE};
        for (int what : whats) {
            H.due("about(0, " + what + ")", x.about(0, what), -9);
        }
        H.due("about(2)", x.about(2, 0), -9);
        H.due("about(-1)", x.about(-1, 0), -9);
        H.due("about(min)", x.about(Integer.MIN_VALUE, 0), -9);
        H.due("about(max)", x.about(Integer.MAX_VALUE, 0), -9);
    }

    private static void due(String list, String term, int spellings) {
        ScribeBlocks x = listed(list);
        H.due(term, Harness.term(x, term), 0);
        H.due(list + term, x.spellings(0), spellings);
    }

    private static void ideasAndTails() {
        H.part("IDEAS and TAILS");
        due("sign i 1 1 means man;", "man abc", 1);
        due("sign i 1 1 means man; sign j 1 1 means man;", "man abc", 2);
        due("sign i 1 1 means men;", "man abc", 0);
        due("sign man 1 1;", "man abc", 0);
        due("sign i 1 1 means man; sign c 1 1 sounds c;", "man abc", 2);
        due("sign i 1 1 means man; sign c 1 1 sounds bc; sign d 1 1 sounds abc;", "man abc", 1 + 2 + 1);
        due("sign i 1 1 means man; sign c 1 1 sounds ab; sign d 1 1 sounds a;", "man abc", 1);
        due("sign i 1 1 means man; sign c 1 1 sounds bc;", "man c", 1);
        // no ECHO behind a TAIL, no second TAIL
        due("sign i 1 1 means man; sign c 1 1 sounds bc; sign d 1 1 sounds c; echo 3;", "man abc", 1 + 2);
        due("", "man abc", 0);
    }

    private static void echoes() {
        H.part("ECHOES");
        String signs = "sign x 1 1 sounds ab; sign b 1 1 sounds b;";
        due(signs + "echo 0;", "t ab", 1);
        due(signs, "t ab", 2);
        due(signs + "echo 3;", "t ab", 2);
        // x x, and an ECHO behind one, the other, both
        due(signs + "echo 0;", "t abab", 1);
        due(signs + "echo 1;", "t abab", 3);
        due(signs + "echo 2;", "t abab", 4);
        due(signs + "echo 2;", "t ababab", 1 + 3 + 3);
        due(signs + "echo 3;", "t ababab", 1 + 3 + 3 + 1);
        due(signs + "echo 3;", "t abababab", 1 + 4 + 6 + 4);
        // none behind a SIGN of one SOUND, none of two SOUNDS, none of another SOUND
        due("sign b 1 1 sounds b; echo 3;", "t b", 1);
        due("sign x 1 1 sounds ab; sign y 1 1 sounds bb; sign a 1 1 sounds a;", "t ab", 1);
        due("sign x 1 1 sounds abc; sign c 1 1 sounds c; sign d 1 1 sounds c;", "t abc", 3);
        due("sign p 1 1 sounds pop; sign q 1 1 sounds p; echo 3;", "t poppoppp", 1 + 2 + 1);
    }

    private static void twoWaysOneSpelling() {
        H.part("a COVER in two ways is one SPELLING");
        // x b y b b is abbbbb with the ECHO ahead of y, or behind it
        String signs = "sign x 1 1 sounds ab; sign y 1 1 sounds bb; sign b 1 1 sounds b; echo 1;";
        ScribeBlocks x = listed(signs);
        Harness.term(x, "t abbb");
        // x bb: x y, x b b; with an ECHO: x b y, x y b, x b b b
        H.due("abbb", x.spellings(0), 5);
        Harness.write(x, "x b y b b");
        Harness.term(x, "u abbbbb");
        H.due("spells", x.spells(1), 1);
        H.due("ways", x.ways(), 1);
        // without ECHO: x and bbbb in 5 ways. With one: x b and bbbb in 5 ways; x y b b b, x y b y,
        // x y y b
        H.due("u", x.spellings(1), 5 + 5 + 3);
    }

    private static void kinds() {
        H.part("KINDS");
        String signs = "sign a 1 1 sounds a; sign i 1 1 means t; sign k 1 1 kind k; sign l 1 1 kind k; sign m 1 1 kind m;";
        due(signs, "t a", 3);
        due(signs, "t a k", 6);
        due(signs, "t a m", 3);
        due(signs, "t a n", 0);
        due(signs, "s b k", 0);
    }

    private static void hundredThousand() {
        H.part("promise 15");
        StringBuilder ten = new StringBuilder();
        for (int s = 0; s < 10; s++) {
            ten.append("sign ").append((char) ('a' + s)).append(" 1 1 sounds a;");
        }
        due(ten.toString(), "t aaaaa", 100000);
        due(ten + "sign x 1 1 means t;", "s aaaaa", 100000);
        due(ten + "sign k 1 1 kind k;", "s aaaaa k", 100000);
        due(ten + "sign k 1 1 kind k;sign l 1 1 kind k;", "s aaaaa k", -3);
        due(ten + "sign k 1 1 kind k;", "s aaaaa l", 0);
        due(ten + "sign x 1 1 sounds b;", "t aaaaab", 100000);
        due(ten + "sign x 1 1 sounds aaa; sign y 1 1 sounds aaa;", "t aaaaa", -3);
        due(ten + "sign x 1 1 means t;", "t aaaaa", -3);
        due(ten.toString(), "t aaaaaa", -3);
        due(ten.toString(), "t aaaaaaaa", -3);
        due(ten.toString(), "t aaaaaaab", 0);
        ScribeBlocks x = listed("sign a 1 1 sounds a;");
        Harness.term(x, "t aa");
        H.due("before", x.spellings(0), 1);
        H.due("best before", x.best(0), 2);
        Harness.list(x, "sign a 1 1 sounds a; sign b 1 2 sounds a; sign i 1 1 means t;");
        H.due("another LIST", x.spellings(0), 4 + 3);
        H.due("best by another LIST", x.best(0), 1);
    }

    private static void dueBest(String list, String term, int paint, int... row) {
        ScribeBlocks x = listed(list);
        Harness.term(x, term);
        H.due("best of " + term + " by " + list, x.best(0), paint);
        for (int i = 0; i < row.length; i++) {
            H.due("bestSign " + i + " of " + term + " by " + list, x.bestSign(0, i), row[i]);
        }
        H.due("bestSign behind", x.bestSign(0, row.length), -1);
        H.due("bestSign(-1)", x.bestSign(0, -1), -1);
        H.due("bestSign(max)", x.bestSign(0, Integer.MAX_VALUE), -1);
        H.due("bestSign(min)", x.bestSign(0, Integer.MIN_VALUE), -1);
    }

    private static void best() {
        H.part("promises 16 and 17");
        dueBest("", "t a", -1);
        dueBest("sign a 2 3 sounds a;", "t a", 6, 0);
        dueBest("sign a 2 3 sounds a; sign i 2 2 means t;", "t a", 4, 1);
        dueBest("sign i 3 3 means t; sign a 2 3 sounds a;", "t a", 6, 1);
        // the least PAINT
        dueBest("sign ab 3 3 sounds ab; sign a 2 2 sounds a; sign b 2 2 sounds b;", "t ab", 8, 1, 2);
        // of one PAINT the fewest SIGNS
        dueBest("sign a 2 2 sounds a; sign b 2 2 sounds b; sign ab 8 1 sounds ab;", "t ab", 8, 2);
        dueBest("sign a 2 2 sounds a; sign b 2 2 sounds b; sign i 8 1 means t;", "t ab", 8, 2);
        // of as many the least row
        dueBest("sign b 2 2 sounds b; sign c 4 1 sounds a; sign a 2 2 sounds a;", "t ab", 8, 1, 0);
        dueBest("sign i 2 2 means t; sign a 2 2 sounds a;", "t a", 4, 0);
        dueBest("sign a 2 2 sounds a; sign i 2 2 means t;", "t a", 4, 0);
        dueBest("sign x 1 2 sounds bc; sign y 1 3 sounds ab; sign c 1 1 sounds c; sign a 1 2 sounds a;",
                "t abc", 4, 1, 2);
        // the KIND
        dueBest("sign a 2 2 sounds a; sign k 3 3 kind k; sign l 2 2 kind k; sign m 4 1 kind k;", "t a k", 8, 0, 2);
        dueBest("sign a 2 2 sounds a; sign k 3 3 kind k;", "t a l", -1);
        dueBest("sign a 60 60 sounds a; sign k 60 60 kind k;", "t aaaaaaaa k", 32400, 0, 0, 0, 0, 0, 0, 0, 0, 1);
    }

    private static void wrongNumbers() {
        H.part("RANGE and NONE");
        ScribeBlocks x = listed("sign a 1 1 sounds a;");
        Harness.term(x, "t a");
        int[] wrong = {-1, 1, 40, Integer.MIN_VALUE, Integer.MAX_VALUE};
        for (int t : wrong) {
            H.due("spellings(" + t + ")", x.spellings(t), -2);
            H.due("best(" + t + ")", x.best(t), -2);
            H.due("bestSign(" + t + ", 0)", x.bestSign(t, 0), -1);
        }
    }
}
