/** PASSAGES, how they are FILLED, and DRAFTS: terms IV and V, promises 27 to 32. */
final class PassageEdges {
    private final Edges e;

    PassageEdges(Edges e) {
        this.e = e;
    }

    void all() {
        twelveTerms();
        justSoMany();
        leastPaint();
        leastBlocks();
        bestOfTerm();
        judged();
        clear();
        say();
        fill();
        fillRefused();
        fillFull();
        filled();
        filledNone();
        fills();
        judge();
    }

    /** Each SIGN a square of its own: ab in one or in two. */
    private static final String TENS = "sign x 10 10 sounds ab; sign a 10 9 sounds a; sign b 10 8 sounds b;"
            + "square 10; least 100; gap 0;";

    private ScribeBlocks said(String list, String terms, int... said) {
        ScribeBlocks x = e.made(list, terms.split(","));
        for (int t : said) {
            x.say(t);
        }
        return x;
    }

    private void dueFilled(ScribeBlocks x, int i, int blocks, int... row) {
        e.due("BLOCKS of " + i, x.filled(i, 0), blocks);
        e.due("SIGNS of " + i, x.filled(i, 1), row.length);
        for (int k = 0; k < row.length; k++) {
            e.due("SIGN " + k + " of " + i, x.filled(i, 10 + k), row[k]);
        }
        e.due("no SIGN behind", x.filled(i, 10 + row.length), -1);
    }

    private void dueJudge(ScribeBlocks x, String draft, int want) {
        e.due("blocks " + draft, Harness.blocks(x, draft) > 0 ? 1 : 0, 1);
        e.due("judge " + draft, x.judge(), want);
    }

    // ---- terms IV

    private void twelveTerms() {
        e.says("terms IV", "A PASSAGE: a row of 1 .. 12 TERMS.");
        ScribeBlocks x = said(TENS, "p a");
        e.due("none yet", x.fill(1), -4);
        for (int many = 1; many <= 12; many++) {
            e.due("say", x.say(0), many);
            e.due("fill(" + many + ")", x.fill(many), 90 * many);
            dueFilled(x, many - 1, 1, 1);
            e.due("none behind", x.filled(many, 0), -1);
        }
        e.due("the 13th", x.say(0), -3);
        e.due("TERMS", x.count(5), 12);
        e.due("fill(12)", x.fill(12), 1080);
    }

    private void justSoMany() {
        e.says("terms IV", "FILLED with n squares: each TERM has one of its SPELLINGS, each GROUPED by itself,"
                + " together just n BLOCKS (each as many as GROUPED tells);");
        ScribeBlocks x = said(TENS, "p ab,q a", 0, 1, 0);
        // p in one or two, q in one: 3, 4, 5
        e.due("fill(2)", x.fill(2), -1);
        e.due("fill(3)", x.fill(3), 290);
        e.due("fill(4)", x.fill(4), 360);
        e.due("fill(5)", x.fill(5), 430);
        e.due("fill(6)", x.fill(6), -1);
        // two small ones would stand in one square: but each TERM by itself
        x = said("sign a 1 1 sounds a;", "p a,q aa,r aaaaaaaa", 0, 0);
        e.due("one", x.fill(1), -1);
        e.due("two", x.fill(2), 2);
        e.due("three", x.fill(3), -1);
        // a a is one BLOCK as GROUPED, never two
        x.clear();
        x.say(1);
        e.due("one", x.fill(1), 2);
        e.due("two", x.fill(2), -1);
        // eight in two, not in more
        x.clear();
        x.say(2);
        e.due("fills", x.fills(), 1);
        e.due("two", x.fill(2), 8);
        // a SPELLING that can't be GROUPED is none
        x = said("sign x 60 60 sounds ab; sign a 5 5 sounds a; sign b 5 5 sounds b; echo 0;", "p ab", 0);
        e.due("fills", x.fills(), 1);
        e.due("one", x.fill(1), 50);
        dueFilled(x, 0, 1, 1, 2);
        x = said("sign x 60 60 sounds ab; sign a 5 5 sounds a;", "p ab,q a", 1, 0);
        e.due("no SPELLING can be GROUPED", x.fills(), 0);
        e.due("no SPELLING can be GROUPED", x.fill(2), -1);
    }

    private void leastPaint() {
        e.says("terms IV", "the least PAINT in all;");
        // p: 100 in one, 110 in two; q: 100 in one, 180 in two
        ScribeBlocks x = said("sign x 10 10 sounds ab; sign a 10 6 sounds a; sign b 10 5 sounds b; sign y 10 10 sounds cd;"
                + "sign c 10 9 sounds c; sign d 10 9 sounds d; square 10; least 100; gap 0; echo 0;", "p ab,q cd", 0, 1);
        // the lesser row, one and two, has more PAINT
        e.due("fill(3)", x.fill(3), 210);
        dueFilled(x, 0, 2, 1, 2);
        dueFilled(x, 1, 1, 3);
        e.due("fill(2)", x.fill(2), 200);
        e.due("fill(4)", x.fill(4), 290);
    }

    private void leastBlocks() {
        e.says("terms IV", "then the least row of how many BLOCKS each TERM has;");
        ScribeBlocks x = said(TENS, "p ab,q ab", 0, 1, 0);
        e.due("fill(4)", x.fill(4), 370);
        dueFilled(x, 0, 1, 0);
        dueFilled(x, 1, 1, 0);
        dueFilled(x, 2, 2, 1, 2);
        e.due("fill(5)", x.fill(5), 440);
        dueFilled(x, 0, 1, 0);
        dueFilled(x, 1, 2, 1, 2);
        dueFilled(x, 2, 2, 1, 2);
        // the same PAINT in one square less for the other
        x = said("sign x 10 9 sounds ab; sign a 9 5 sounds a; sign b 9 5 sounds b; square 10; least 100; gap 0; echo 0;",
                "p ab", 0, 0, 0);
        e.due("fill(5)", x.fill(5), -1);
        e.due("fill(3)", x.fill(3), 270);
    }

    private void bestOfTerm() {
        e.says("terms IV", "of one TERM's SPELLINGS with as many BLOCKS that which is BEST.");
        // two squares: b and one of a, 180 or 190; x and b, an ECHO, 190
        ScribeBlocks x = said("sign b 10 9 sounds b; sign d 10 10 sounds a; sign c 9 10 sounds a; sign a 10 9 sounds a;"
                + "sign x 10 10 sounds ab; square 10; least 100; gap 0;", "p ab", 0);
        e.due("fill(2)", x.fill(2), 180);
        dueFilled(x, 0, 2, 2, 0);
        e.due("fill(1)", x.fill(1), 100);
        dueFilled(x, 0, 1, 4);
        // of one PAINT the fewest SIGNS, though their row is greater
        x = said("sign a 4 2 sounds a; sign b 2 4 sounds b; sign x 4 4 sounds ab;", "p ab", 0);
        e.due("fill(1)", x.fill(1), 16);
        dueFilled(x, 0, 1, 2);
        // the least row of as many
        x = said("sign i 3 4 means p; sign j 4 3 means p; sign a 6 2 sounds a;", "p a", 0);
        e.due("fill(1)", x.fill(1), 12);
        dueFilled(x, 0, 1, 0);
        // a lesser row, or fewer SIGNS, of more PAINT
        x = said("sign a 5 4 sounds a; sign i 3 4 means p;", "p a", 0);
        e.due("fill(1)", x.fill(1), 12);
        dueFilled(x, 0, 1, 1);
        x = said("sign x 5 4 sounds ab; sign a 3 2 sounds a; sign b 3 2 sounds b;", "p ab", 0);
        e.due("fill(1)", x.fill(1), 12);
        dueFilled(x, 0, 1, 1, 2);
        // a KIND, a TAIL that are SIGN 0
        x = said("sign k 10 10 kind k; sign i 10 10 means p; square 10; least 100;", "p ab k", 0);
        e.due("fill(2)", x.fill(2), 200);
        dueFilled(x, 0, 2, 1, 0);
        x = said("sign b 10 10 sounds b; sign i 10 10 means p; square 10; least 100;", "p ab", 0);
        e.due("fill(2)", x.fill(2), 200);
        dueFilled(x, 0, 2, 1, 0);
        // the BEST of all has other BLOCKS: a TAIL or an ECHO is taken where it makes the number
        x = said("sign i 10 10 means p; sign b 10 10 sounds b; square 10; least 100;", "p ab", 0);
        e.due("fill(1)", x.fill(1), 100);
        e.due("fill(2)", x.fill(2), 200);
        dueFilled(x, 0, 2, 0, 1);
        x = said("sign x 10 10 sounds ab; sign b 10 10 sounds b; sign k 10 10 kind k; square 10; least 100;", "p ab k", 0);
        e.due("fill(2)", x.fill(2), 200);
        dueFilled(x, 0, 2, 0, 2);
        e.due("fill(3)", x.fill(3), 300);
        dueFilled(x, 0, 3, 0, 1, 2);
    }

    // ---- terms V, DRAFTS

    private static final String DRAFTS = "sign a 5 5 sounds a; sign b 5 5 sounds b; sign x 5 5 sounds ab; sign i 5 5 means q;"
            + "sign k 5 5 kind k; sign z 60 60 sounds a;";

    private void judged() {
        e.says("terms V", "A DRAFT, BLOCKS as told, is judged against the PASSAGE: 1000 and b: BLOCK b (from 0) is the first"
                + " that isn't LEGIBLE;");
        ScribeBlocks x = said(DRAFTS, "p a", 0);
        dueJudge(x, "z", 1000);
        dueJudge(x, "a-z", 1001);
        dueJudge(x, "z-z", 1000);
        dueJudge(x, "a-a-z-a-z", 1002);
        dueJudge(x, Edges.times("a", 11, "-") + "-z", 1011);
        // ahead of all else, and behind & a large SIGN takes no room
        dueJudge(x, "b-z", 1001);
        dueJudge(x, "a&z", 3000);
        dueJudge(x, "a*a*a*a*a*a*a*a", 3000);
        dueJudge(x, "a*a*a*a*a*a*a*a*a", 1000);

        e.says("terms V", "2000 and t: its SIGNS, from the first on (as they stand in the text), can be cut in SPELLINGS of"
                + " the first t TERMS of the PASSAGE with something left or nothing, and of no more of them;");
        x = said(DRAFTS, "p ab,q b,r a k", 0, 1, 2);
        dueJudge(x, "k", 2000);
        dueJudge(x, "a", 2000);
        dueJudge(x, "b-a", 2000);
        dueJudge(x, "x", 2001);
        dueJudge(x, "x-k", 2001);
        dueJudge(x, "a:b-a", 2001);
        dueJudge(x, "x-i", 2002);
        dueJudge(x, "x*b", 2002);
        dueJudge(x, "x-b-b", 2002);
        dueJudge(x, "x-i-a", 2002);
        dueJudge(x, "x-i-k-a", 2002);
        // of a draft ahead that was longer nothing is left
        dueJudge(x, "x-i-a-k", 0);
        dueJudge(x, "x-i-a", 2002);
        dueJudge(x, "x-i-b", 2002);
        dueJudge(x, "x-i", 2002);
        // the SIGN behind & counts, where it stands
        dueJudge(x, "x&i", 2002);
        dueJudge(x, "i&x", 2000);
        x = said(DRAFTS, "p a", 0, 0, 0, 0, 0, 0, 0, 0, 0, 0, 0, 0);
        dueJudge(x, Edges.times("a", 11, "-"), 2011);
        dueJudge(x, Edges.times("a", 11, "-") + "-b", 2011);

        e.says("terms V", "3000: in those of all of them alone with something left behind;");
        dueJudge(x, Edges.times("a", 12, "-") + "*a", 3000);
        dueJudge(x, Edges.times("a*a", 12, "-"), 3000);
        x = said(DRAFTS, "p ab,q b,r a k", 0, 1, 2);
        dueJudge(x, "x-i-a-k-a", 3000);
        dueJudge(x, "x-i-a-k-k", 3000);
        dueJudge(x, "x-b-a-k-x-b-a-k", 3000);

        e.says("terms V", "0: just those of all of them.");
        dueJudge(x, "x-i-a-k", 0);
        dueJudge(x, "a-b-b-a-k", 0);
        dueJudge(x, "x&i*a&k", 0);
        dueJudge(x, "((x:b):(i*b))-a:k", 0);
        // all cuts are looked at: x b is one TERM or one and the next one's beginning
        dueJudge(x, "x-b-b-a-k", 0);
        dueJudge(x, "x-b-a-k", 0);
        x = said(DRAFTS, "q b", 0, 0);
        dueJudge(x, "i-b", 0);
        dueJudge(x, "i-b-b", 0);
        dueJudge(x, "i-b-i-b", 0);
        dueJudge(x, "i-b-b-b", 3000);
        x = said(DRAFTS, "p a", 0, 0, 0, 0, 0, 0, 0, 0, 0, 0, 0, 0);
        dueJudge(x, Edges.times("a", 12, "-"), 0);
    }

    // ---- promises 27 to 32

    private void clear() {
        e.says("promise 27", "The PASSAGE is empty: how many TERMS it had.");
        ScribeBlocks x = e.made(TENS, "p ab", "q a");
        e.due("none", x.clear(), 0);
        x.say(0);
        x.say(1);
        x.say(1);
        e.due("three", x.clear(), 3);
        e.due("TERMS of it", x.count(5), 0);
        e.due("TERMS", x.count(1), 2);
        e.due("none", x.clear(), 0);
        e.due("fills", x.fills(), -4);
        for (int i = 0; i < 12; i++) {
            x.say(0);
        }
        x.say(0);
        e.due("twelve", x.clear(), 12);
        e.due("one", x.say(1), 1);
        e.due("that one", x.fill(1), 90);
    }

    private void say() {
        e.says("promise 28", "A TERM comes behind the PASSAGE: how many it has; RANGE; FULL: the 13th.");
        ScribeBlocks x = e.made(TENS, "p ab", "q a");
        e.due("one", x.say(0), 1);
        e.due("two", x.say(1), 2);
        e.due("the same again", x.say(1), 3);
        x.fill(4);
        // p in two, q in one, q in one
        dueFilled(x, 0, 2, 1, 2);
        dueFilled(x, 1, 1, 1);
        dueFilled(x, 2, 1, 1);
        e.dueAll("no TERM", -2, x.say(2), x.say(3), x.say(39), x.say(40));
        for (int far : Edges.FAR) {
            e.due("say(" + far + ")", x.say(far), -2);
        }
        e.due("TERMS of it", x.count(5), 3);
        for (int many = 4; many <= 12; many++) {
            e.due("say", x.say(0), many);
        }
        e.due("the 13th", x.say(0), -3);
        e.due("again", x.say(1), -3);
        e.due("RANGE ahead of FULL", x.say(2), -2);
        e.due("TERMS of it", x.count(5), 12);
        ScribeBlocks none = new ScribeBlocks();
        e.due("no TERMS", none.say(0), -2);
    }

    private void fill() {
        e.says("promise 29", "FILLED with n squares (1 .. 144): the least PAINT; NONE: it can't be;");
        // nine squares each, twelve times: 108 is the most there can be
        ScribeBlocks x = said("sign a 10 10 sounds a; sign k 10 10 kind k; square 10; least 100;", "p aaaaaaaa k",
                0, 0, 0, 0, 0, 0, 0, 0, 0, 0, 0, 0);
        e.due("fill(108)", x.fill(108), 10800);
        dueFilled(x, 11, 9, 0, 0, 0, 0, 0, 0, 0, 0, 1);
        e.dueAll("can't be", -1, x.fill(1), x.fill(107), x.fill(109), x.fill(143), x.fill(144));
        x = said("sign a 60 60 sounds a; sign k 60 60 kind k; square 60; least 100; gap 0;", "p aaaaaaaa k",
                0, 0, 0, 0, 0, 0, 0, 0, 0, 0, 0, 0);
        e.due("the most PAINT", x.fill(108), 108 * 3600);
        x = said("", "p a", 0);
        e.dueAll("no SPELLINGS", -1, x.fill(1), x.fill(144));
        // 40 TERMS, the first and the last of them; in one square two SIGNS and one
        x = e.made("sign a 5 5 sounds a; sign b 4 4 sounds b;", "p aa");
        for (int t = 1; t < 40; t++) {
            Harness.term(x, Edges.name(t) + " " + Edges.times("b", 1 + t % 4, ""));
        }
        x.say(39);
        x.say(0);
        x.say(1);
        x.say(4);
        e.due("four", x.fill(4), 64 + 50 + 32 + 16);
        dueFilled(x, 0, 1, 1, 1, 1, 1);
        dueFilled(x, 1, 1, 0, 0);
        dueFilled(x, 2, 1, 1, 1);
        dueFilled(x, 3, 1, 1);
        // whatever was asked ahead of it
        x = said(TENS, "p abab,q c,r bc", 0);
        for (int t = 0; t < 3; t++) {
            x.spellings(t);
            x.best(t);
        }
        e.due("fills", x.fills(), 3);
        e.due("fill(4)", x.fill(4), 340);
        dueFilled(x, 0, 4, 1, 2, 1, 2);
    }

    private void fillRefused() {
        e.says("promise 29", "RANGE;");
        ScribeBlocks x = said(TENS, "p ab", 0);
        e.dueAll("0, 145", -2, x.fill(0), x.fill(145), x.fill(146));
        for (int far : Edges.FAR) {
            e.due("fill(" + far + ")", x.fill(far), -2);
        }
        e.dueAll("1, 144", -1, x.fill(144), x.fill(3));
        e.due("fill(1)", x.fill(1), 100);

        e.says("promise 29", "STATE: no TERMS;");
        x.clear();
        e.dueAll("1, 144", -4, x.fill(1), x.fill(144));
        e.dueAll("RANGE ahead of STATE", -2, x.fill(0), x.fill(145));
        e.due("a new object", new ScribeBlocks().fill(1), -4);
    }

    private static String alike(char first, int many, String sounds) {
        StringBuilder list = new StringBuilder();
        for (int s = 0; s < many; s++) {
            list.append("sign ").append((char) (first + s)).append(" 3 ").append(3 + s).append(" sounds ")
                    .append(sounds).append(';');
        }
        return list.toString();
    }

    private void fillFull() {
        e.says("promise 29", "FULL: one of them has more than 500 SPELLINGS.");
        String list = alike('a', 5, "a") + alike('f', 10, "b") + "sign z 1 1 sounds bba; echo 0;";
        ScribeBlocks x = said(list, "p abb,q bba,r c,s bbb", 0);
        e.due("500", x.spellings(0), 500);
        e.due("501", x.spellings(1), 501);
        e.due("just 500", x.fill(1), 27);
        dueFilled(x, 0, 1, 0, 5, 5);
        e.due("fills", x.fills() > 0 ? 1 : 0, 1);
        x.say(1);
        e.due("501", x.fill(2), -3);
        e.due("any n", x.fill(144), -3);
        e.due("RANGE ahead of FULL", x.fill(145), -2);
        x.clear();
        x.say(2);
        x.say(1);
        e.due("FULL ahead of NONE", x.fill(2), -3);
        x.clear();
        x.say(1);
        x.say(2);
        e.due("FULL ahead of NONE", x.fill(2), -3);
        x.clear();
        x.say(3);
        e.due("1000", x.fill(1), -3);
        x.clear();
        e.due("STATE ahead of FULL", x.fill(1), -4);
        // beyond 100000 too
        x = said(alike('a', 10, "a"), "p aaaaaaaa", 0);
        e.due("FULL", x.fill(2), -3);
        e.due("spellings", x.spellings(0), -3);
        // another LIST, other SPELLINGS
        Harness.list(x, "sign a 1 1 sounds a;");
        e.due("by another LIST", x.fill(2), 8);
        // 20 SIGNS for each of eight SOUNDS, but none of the KIND: no SPELLING at all, so it isn't FULL
        x = said(alike('a', 20, "a") + "sign z 1 1 kind l;", "p aaaaaaaa k,q a", 1, 0);
        e.due("no SPELLING", x.spellings(0), 0);
        e.due("NONE", x.fill(2), -1);
        e.due("no n", x.fills(), 0);
        Harness.list(x, "sign a 1 1 sounds a; sign z 1 1 kind k;");
        e.due("by another LIST", x.fill(4), 10);
    }

    private void filled() {
        e.says("promise 30", "Of the i-th TERM of the PASSAGE by the latest fill() that told PAINT, what 0: BLOCKS,"
                + " 1: SIGNS of its SPELLING; 10 + k: SIGN k.");
        ScribeBlocks x = said(TENS, "p ab,q a", 0, 1);
        e.due("no fill() yet", x.filled(0, 0), -1);
        e.due("fill(1)", x.fill(1), -1);
        e.due("none told PAINT", x.filled(0, 0), -1);
        e.due("fill(3)", x.fill(3), 260);
        dueFilled(x, 0, 2, 1, 2);
        dueFilled(x, 1, 1, 1);
        e.due("fill(2)", x.fill(2), 190);
        dueFilled(x, 0, 1, 0);
        dueFilled(x, 1, 1, 1);
        e.dueAll("NONE, RANGE", 0, x.fill(4) + 1, x.fill(0) + 2, x.fill(145) + 2);
        e.due("fills", x.fills(), 2);
        dueFilled(x, 0, 1, 0);
        dueFilled(x, 1, 1, 1);
        e.due("fill(3)", x.fill(3), 260);
        dueFilled(x, 0, 2, 1, 2);
    }

    private void filledNone() {
        e.says("promise 30", "NONE when there is none such, or clear(), say(), list() came since.");
        ScribeBlocks x = said(TENS, "p ab,q a", 0, 1);
        x.fill(3);
        e.dueAll("no TERM", -1, x.filled(2, 0), x.filled(2, 1), x.filled(2, 10), x.filled(11, 0), x.filled(12, 0));
        e.dueAll("no what", -1, x.filled(0, 2), x.filled(0, 3), x.filled(0, 9), x.filled(1, 9));
        e.dueAll("no SIGN", -1, x.filled(0, 12), x.filled(1, 11), x.filled(1, 19), x.filled(0, 22), x.filled(0, 42));
        for (int far : Edges.FAR) {
            e.dueAll("far " + far, -1, x.filled(far, 0), x.filled(0, far), x.filled(far, far));
        }
        Harness.term(x, "r b");
        Harness.write(x, "a");
        Harness.blocks(x, "a");
        Harness.value(x, "c", 0, 0, 0);
        Harness.named(x, "a");
        x.judge();
        x.read();
        x.group();
        x.best(0);
        x.spellings(2);
        e.due("others leave it", x.filled(0, 0), 2);
        x.say(1);
        e.dueAll("say()", -1, x.filled(0, 0), x.filled(1, 1), x.filled(2, 0), x.filled(0, 10));
        e.due("fill(4)", x.fill(4), 350);
        x.clear();
        e.dueAll("clear()", -1, x.filled(0, 0), x.filled(1, 1), x.filled(0, 10));
        x.say(1);
        e.due("still", x.filled(0, 0), -1);
        e.due("fill(1)", x.fill(1), 90);
        e.due("fewer TERMS now", x.filled(1, 0), -1);
        Harness.list(x, TENS);
        e.dueAll("list()", -1, x.filled(0, 0), x.filled(0, 1), x.filled(0, 10));
        e.due("fill(1)", x.fill(1), 90);
        dueFilled(x, 0, 1, 1);
        // clear() of a PASSAGE with TERMS, then the same again
        x.clear();
        x.say(1);
        e.due("filled", x.filled(0, 0), -1);
    }

    private void fills() {
        e.says("promise 31", "How many n there are with which the PASSAGE can be FILLED;");
        ScribeBlocks x = said(TENS, "p abababab,q a,r c", 1);
        e.due("one", x.fills(), 1);
        x.clear();
        x.say(0);
        e.due("4 .. 8", x.fills(), 5);
        for (int i = 1; i < 12; i++) {
            x.say(0);
        }
        e.due("48 .. 96", x.fills(), 49);
        e.dueAll("47, 97", -1, x.fill(47), x.fill(97));
        e.due("48", x.fill(48), 4800);
        e.due("96", x.fill(96), 8160);
        x.clear();
        x.say(2);
        e.due("none", x.fills(), 0);
        // a number in between that can't be: x alone, or a b c d each
        x = said("sign x 10 10 sounds abc; sign a 10 10 sounds a; sign b 10 10 sounds b; sign c 10 10 sounds c;"
                + "square 10; least 100; echo 0;", "p abc", 0, 0);
        e.due("2, 4, 6", x.fills(), 3);
        e.dueAll("3, 5", -1, x.fill(3), x.fill(5));

        e.says("promise 31", "FULL, STATE likewise.");
        x = said(alike('a', 5, "a") + alike('f', 10, "b") + "sign z 1 1 sounds bba; echo 0;", "p abb,q bba,r c", 0);
        e.due("500", x.fills() > 0 ? 1 : 0, 1);
        x.say(1);
        e.due("501", x.fills(), -3);
        x.clear();
        e.due("no TERMS", x.fills(), -4);
        x.say(2);
        x.say(1);
        e.due("FULL ahead of none", x.fills(), -3);
        e.due("a new object", new ScribeBlocks().fills(), -4);
    }

    private void judge() {
        e.says("promise 32", "A DRAFT, the BLOCKS as told, judged against the PASSAGE;");
        ScribeBlocks x = said(DRAFTS, "p ab,q b", 0, 1);
        dueJudge(x, "x-b", 0);
        dueJudge(x, "x-b-b", 0);
        e.due("again", x.judge(), 0);
        e.due("a FAULT", Harness.blocks(x, "x-"), -1);
        e.due("those ahead", x.judge(), 0);
        x.say(1);
        e.due("the PASSAGE of now: x, b, b", x.judge(), 0);
        x.say(1);
        e.due("the PASSAGE of now", x.judge(), 2003);
        // by THE LIST, whatever VALUES are told
        x.clear();
        x.say(0);
        dueJudge(x, "x", 0);
        Harness.value(x, "c", 2, 0, 0);
        e.due("VALUES leave it", x.judge(), 0);

        e.says("promise 32", "STATE: no BLOCKS, or no TERMS.");
        x = said(DRAFTS, "p ab");
        e.due("neither", x.judge(), -4);
        x.say(0);
        e.due("no BLOCKS", x.judge(), -4);
        Harness.blocks(x, "oh");
        e.due("no BLOCKS but a FAULT", x.judge(), -4);
        Harness.blocks(x, "z");
        e.due("both", x.judge(), 1000);
        x.clear();
        e.due("no TERMS", x.judge(), -4);
        x.say(0);
        e.due("both", x.judge(), 1000);
        Harness.list(x, DRAFTS);
        e.due("behind a LIST no BLOCKS", x.judge(), -4);
    }
}
