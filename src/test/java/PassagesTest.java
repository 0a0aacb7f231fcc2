/** Promises 27 to 32: the PASSAGE, how it is FILLED, and DRAFTS judged against it. */
public final class PassagesTest {
    private static final Harness H = new Harness();

    public static void main(String[] args) {
        saying();
        filling();
        leastRowOfBlocks();
        ofOneTerm();
        orderOfAnswers();
        fiveHundred();
        longPassage();
        whatStaysFilled();
        judging();
        judgingLegible();
        H.finish();
    }

    private static ScribeBlocks listed(String text, String... terms) {
        ScribeBlocks x = new ScribeBlocks();
        Harness.list(x, text);
        H.due("list " + text, x.fault(0), 0);
        for (int t = 0; t < terms.length; t++) {
            H.due("term " + terms[t], Harness.term(x, terms[t]), t);
        }
        return x;
    }

    private static void saying() {
        H.part("promises 27 and 28");
        ScribeBlocks x = listed("", "p a", "q a");
        H.due("clear", x.clear(), 0);
        int[] wrong = {-1, 2, Integer.MIN_VALUE, Integer.MAX_VALUE};
        for (int t : wrong) {
            H.due("say(" + t + ")", x.say(t), -2);
        }
        for (int i = 1; i <= 12; i++) {
            H.due("say " + i, x.say(i % 2), i);
        }
        H.due("the 13th", x.say(0), -3);
        H.due("RANGE ahead of FULL", x.say(2), -2);
        H.due("TERMS", x.count(5), 12);
        H.due("clear", x.clear(), 12);
        H.due("clear", x.clear(), 0);
        H.due("TERMS", x.count(5), 0);
        H.due("say", x.say(1), 1);
    }

    private static void dueFilled(ScribeBlocks x, int i, int blocks, int... row) {
        H.due("BLOCKS of " + i, x.filled(i, 0), blocks);
        H.due("SIGNS of " + i, x.filled(i, 1), row.length);
        for (int k = 0; k < row.length; k++) {
            H.due("SIGN " + k + " of " + i, x.filled(i, 10 + k), row[k]);
        }
        H.due("SIGN behind", x.filled(i, 10 + row.length), -1);
    }

    /** Each SIGN of 10 fills a square; x is ab in one, or a b in two; an ECHO makes one more. */
    private static final String TENS = "sign x 10 10 sounds ab; sign a 10 9 sounds a; sign b 10 8 sounds b;"
            + "square 10; least 100; gap 0;";

    private static void filling() {
        H.part("promises 29 and 30");
        ScribeBlocks x = listed(TENS, "p ab", "q a", "r c");
        x.say(0);
        // x: 100 in 1; x b: 180 in 2; a b: 170 in 2
        H.due("fill(1)", x.fill(1), 100);
        dueFilled(x, 0, 1, 0);
        H.due("fill(2)", x.fill(2), 170);
        dueFilled(x, 0, 2, 1, 2);
        H.due("fill(3)", x.fill(3), -1);
        dueFilled(x, 0, 2, 1, 2);
        H.due("fills", x.fills(), 2);
        H.due("fills leaves it", x.filled(0, 0), 2);
        x.say(1);
        H.due("fills", x.fills(), 2);
        H.due("fill(1)", x.fill(1), -1);
        H.due("none yet", x.filled(0, 0), -1);
        H.due("fill(2)", x.fill(2), 190);
        H.due("fill(3)", x.fill(3), 260);
        dueFilled(x, 0, 2, 1, 2);
        dueFilled(x, 1, 1, 1);
        int[] wrong = {-1, 2, 12, 22, Integer.MIN_VALUE, Integer.MAX_VALUE};
        for (int i : wrong) {
            H.due("filled(" + i + ", 0)", x.filled(i, 0), -1);
            H.due("filled(0, " + i + ")", x.filled(0, i), -1);
        }
        H.due("filled(0, 9)", x.filled(0, 9), -1);
        x.say(2);
        H.due("a TERM without SPELLINGS", x.fills(), 0);
        H.due("a TERM without SPELLINGS", x.fill(3), -1);
        x = listed("sign a 60 60 sounds a; sign b 5 5 sounds b; square 10;", "p a", "q b");
        x.say(1);
        x.say(0);
        H.due("not LEGIBLE", x.fill(2), -1);
        H.due("not LEGIBLE", x.fills(), 0);
    }

    private static void leastRowOfBlocks() {
        H.part("the least row of BLOCKS");
        ScribeBlocks x = listed(TENS, "p ab", "q ab");
        x.say(0);
        x.say(1);
        H.due("fill(3)", x.fill(3), 270);
        dueFilled(x, 0, 1, 0);
        dueFilled(x, 1, 2, 1, 2);
        H.due("fills", x.fills(), 3);
    }

    private static void ofOneTerm() {
        H.part("of one TERM's SPELLINGS the BEST");
        // p in two squares: a b of 180, c b of 180, x b (an ECHO) of 190; the least row of the first
        ScribeBlocks x = listed("sign b 10 9 sounds b; sign c 9 10 sounds a; sign a 10 9 sounds a;"
                + "sign x 10 10 sounds ab; square 10; least 100; gap 0;", "p ab");
        x.say(0);
        H.due("fill(2)", x.fill(2), 180);
        dueFilled(x, 0, 2, 1, 0);
        // the fewest SIGNS: one of 16, or two of 8, all in one square
        x = listed("sign a 4 2 sounds a; sign b 2 4 sounds b; sign x 4 4 sounds ab;", "p ab");
        x.say(0);
        H.due("fill(1)", x.fill(1), 16);
        dueFilled(x, 0, 1, 2);
        // with a KIND
        x = listed("sign a 4 2 sounds a; sign k 9 9 kind k; sign l 2 2 kind k;", "p a k");
        x.say(0);
        H.due("fill(1)", x.fill(1), 12);
        dueFilled(x, 0, 1, 0, 2);
        H.due("fills", x.fills(), 1);
        // an IDEA with a TAIL takes more squares than alone
        x = listed("sign i 10 10 means p; sign b 10 10 sounds b; square 10; least 100;", "p ab");
        x.say(0);
        H.due("fill(1)", x.fill(1), 100);
        H.due("fill(2)", x.fill(2), 200);
        dueFilled(x, 0, 2, 0, 1);
    }

    private static void orderOfAnswers() {
        H.part("RANGE, STATE, FULL, NONE");
        ScribeBlocks x = listed(TENS, "p ab");
        int[] wrong = {0, 145, -1, Integer.MIN_VALUE, Integer.MAX_VALUE};
        for (int n : wrong) {
            H.due("fill(" + n + ")", x.fill(n), -2);
        }
        H.due("fill(1)", x.fill(1), -4);
        H.due("fill(144)", x.fill(144), -4);
        H.due("fills", x.fills(), -4);
        x.say(0);
        H.due("fill(0)", x.fill(0), -2);
        H.due("fill(145)", x.fill(145), -2);
        H.due("fill(144)", x.fill(144), -1);
        x.clear();
        H.due("fills", x.fills(), -4);
    }

    private static String like(char first, int many, String sounds) {
        StringBuilder text = new StringBuilder();
        for (int i = 0; i < many; i++) {
            text.append("sign ").append((char) (first + i)).append(' ').append(3 + i).append(" 3 sounds ")
                    .append(sounds).append(';');
        }
        return text.toString();
    }

    private static void fiveHundred() {
        H.part("500 SPELLINGS");
        String signs = like('a', 5, "a") + like('f', 10, "b");
        ScribeBlocks x = listed(signs + "sign z 1 1 sounds bba; echo 0;", "p abb", "q bba", "r c");
        H.due("just 500", x.spellings(0), 500);
        H.due("501", x.spellings(1), 501);
        x.say(0);
        H.due("fill(1)", x.fill(1), 27);
        dueFilled(x, 0, 1, 0, 5, 5);
        x.say(1);
        H.due("FULL", x.fill(1), -3);
        H.due("FULL", x.fills(), -3);
        H.due("RANGE ahead of FULL", x.fill(0), -2);
        x.say(2);
        H.due("FULL ahead of NONE", x.fill(3), -3);
        H.due("FULL ahead of NONE", x.fills(), -3);
        x.clear();
        x.say(2);
        x.say(0);
        H.due("NONE", x.fill(3), -1);
        H.due("fills", x.fills(), 0);
    }

    private static void longPassage() {
        H.part("12 TERMS");
        // eight SIGNS and a KIND, each a square of its own, or in one or two
        ScribeBlocks x = listed("sign a 10 10 sounds a; sign k 10 10 kind k; square 10; least 100; gap 0;",
                "p aaaaaaaa k", "q a");
        for (int i = 0; i < 12; i++) {
            x.say(0);
        }
        H.due("fills", x.fills(), 1);
        H.due("fill(108)", x.fill(108), 10800);
        dueFilled(x, 11, 9, 0, 0, 0, 0, 0, 0, 0, 0, 1);
        H.due("fill(107)", x.fill(107), -1);
        H.due("fill(109)", x.fill(109), -1);
        x = listed(TENS, "p abababab");
        for (int i = 0; i < 12; i++) {
            x.say(0);
        }
        // each of four to eight squares: 48 .. 96
        H.due("fills", x.fills(), 49);
        H.due("fill(48)", x.fill(48), 4800);
        H.due("fill(96)", x.fill(96), 12 * 680);
        H.due("fill(49)", x.fill(49), 4870);
        dueFilled(x, 10, 4, 0, 0, 0, 0);
        dueFilled(x, 11, 5, 0, 0, 0, 1, 2);
        H.due("fill(47)", x.fill(47), -1);
        H.due("fill(97)", x.fill(97), -1);
    }

    private static void whatStaysFilled() {
        H.part("what of fill() stays");
        ScribeBlocks x = listed(TENS, "p ab");
        x.say(0);
        x.fill(1);
        H.due("filled", x.filled(0, 0), 1);
        x.fill(0);
        x.fill(9);
        Harness.term(x, "q a");
        Harness.write(x, "a");
        Harness.blocks(x, "a");
        x.judge();
        H.due("others", x.filled(0, 0), 1);
        x.say(1);
        H.due("say", x.filled(0, 0), -1);
        H.due("fill", x.fill(2), 190);
        x.clear();
        H.due("clear", x.filled(0, 0), -1);
        x.say(1);
        H.due("fill", x.fill(1), 90);
        H.due("filled", x.filled(0, 10), 1);
        H.due("only one TERM", x.filled(1, 0), -1);
        Harness.list(x, "sign a 2 2 sounds a;");
        H.due("list", x.filled(0, 0), -1);
        H.due("by another LIST", x.fill(1), 4);
        H.due("filled", x.filled(0, 10), 0);
    }

    private static void dueJudge(ScribeBlocks x, String draft, int want) {
        Harness.blocks(x, draft);
        H.due("draft " + draft, x.fault(0), 0);
        H.due("judge " + draft, x.judge(), want);
    }

    private static void judging() {
        H.part("promise 32");
        ScribeBlocks x = listed("sign a 5 5 sounds a; sign b 5 5 sounds b; sign x 5 5 sounds ab; sign i 5 5 means q;"
                + "sign k 5 5 kind k;", "p ab", "q b", "r a k");
        H.due("no BLOCKS, no TERMS", x.judge(), -4);
        x.say(0);
        H.due("no BLOCKS", x.judge(), -4);
        x.clear();
        Harness.blocks(x, "a");
        H.due("no TERMS", x.judge(), -4);
        x.say(0);
        x.say(1);
        x.say(2);
        dueJudge(x, "a", 2000);
        dueJudge(x, "k", 2000);
        dueJudge(x, "x", 2001);
        dueJudge(x, "a*b", 2001);
        dueJudge(x, "a:b-k", 2001);
        dueJudge(x, "x-i", 2002);
        dueJudge(x, "x-b", 2002);
        dueJudge(x, "x-a", 2001);
        dueJudge(x, "x-b-b", 2002);
        dueJudge(x, "x-i-a", 2002);
        dueJudge(x, "x-i-a-k", 0);
        dueJudge(x, "x&i-a&k", 0);
        dueJudge(x, "x:b-(i*b):a*k", 0);
        dueJudge(x, "a-b-b-a-k", 0);
        dueJudge(x, "a-b-b-b-a-k", 2002);
        dueJudge(x, "x-i-a-k-a", 3000);
        dueJudge(x, "x-i-a-k-k-k", 3000);
        x.clear();
        x.say(1);
        x.say(1);
        dueJudge(x, "i", 2001);
        // i b: the IDEA with a TAIL, or two
        dueJudge(x, "i-b", 0);
        dueJudge(x, "i-b-b", 0);
        dueJudge(x, "i-b-b-b", 3000);
        Harness.value(x, "c", 1, 0, 0);
        H.due("VALUES leave it", x.judge(), 3000);
    }

    private static void judgingLegible() {
        H.part("LEGIBLE ahead of all");
        ScribeBlocks x = listed("sign a 20 20 sounds a; square 20; least 100; gap 0;", "p a");
        x.say(0);
        dueJudge(x, "a", 0);
        dueJudge(x, "a*a", 1000);
        dueJudge(x, "a-a", 3000);
        dueJudge(x, "a-a:a-a*a", 1001);
        dueJudge(x, "a-a-a-a-a-a-a-a-a-a-a-a*a", 1011);
    }
}
