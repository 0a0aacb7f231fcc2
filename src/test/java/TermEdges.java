/** TERMS and their SPELLINGS: terms III, promises 13 to 17. */
final class TermEdges {
    private final Edges e;

    TermEdges(Edges e) {
        this.e = e;
    }

    void all() {
        fortyTerms();
        spellingLengths();
        ideas();
        tails();
        covers();
        echoes();
        echoSounds();
        mostEchoes();
        oneRow();
        paint();
        bestOfAll();
        term();
        termRefused();
        about();
        spellings();
        best();
        bestSign();
    }

    private void dueSpellings(String list, String term, int want) {
        ScribeBlocks x = e.made(list, term);
        e.due("spellings of " + term + " by " + list, x.spellings(0), want);
    }

    /** Whether a row is a SPELLING of TERM 0. */
    private void dueSpells(ScribeBlocks x, String row, int want) {
        e.due("write " + row, Harness.write(x, row) > 0 ? 1 : 0, 1);
        e.due("spells " + row, x.spells(0), want);
    }

    private void dueBest(String list, String term, int paint, int... row) {
        ScribeBlocks x = e.made(list, term);
        String by = " of " + term + " by " + list;
        e.due("best" + by, x.best(0), paint);
        for (int i = 0; i < row.length; i++) {
            e.due("bestSign " + i + by, x.bestSign(0, i), row[i]);
        }
        e.due("bestSign behind" + by, x.bestSign(0, row.length), -1);
    }

    private void fortyTerms() {
        e.says("terms III", "TERMS, at most 40, numbered from 0:");
        ScribeBlocks x = new ScribeBlocks();
        for (int t = 0; t < 40; t++) {
            e.due("term " + t, Harness.term(x, Edges.name(t) + " " + (char) ('a' + t % 16)), t);
        }
        e.due("the 41st", Harness.term(x, "more a"), -3);
        for (int t = 0; t < 40; t++) {
            e.due("SOUND of " + t, x.about(t, 10), t % 16);
        }
        e.due("no TERM 40", x.about(40, 0), -9);

        e.says("terms III", "a name (no two alike),");
        x = new ScribeBlocks();
        e.due("first", Harness.term(x, "abcdefghijkl a"), 0);
        e.due("alike", Harness.term(x, "abcdefghijkl b"), -4);
        e.due("one letter less", Harness.term(x, "abcdefghijk a"), 1);
        e.due("another letter", Harness.term(x, "abcdefghijkk a"), 2);
        e.due("without the first", Harness.term(x, "bcdefghijkl a"), 3);

        e.says("terms III", "a ROW of 1 .. 8 SOUNDS,");
        x = new ScribeBlocks();
        for (int many = 1; many <= 12; many++) {
            String row = "ponmlkjihgfe".substring(0, many);
            e.due(many + " SOUNDS", Harness.term(x, Edges.name(many) + " " + row), many <= 8 ? many - 1 : -1);
        }
        for (int i = 0; i < 8; i++) {
            e.due("SOUND " + i + " of eight", x.about(7, 10 + i), 15 - i);
        }

        e.says("terms III", "and the name of a KIND or none.");
        e.due("a KIND", Harness.term(x, "w a abcdefghijkl"), 8);
        e.due("it has one", x.about(8, 1), 1);
        e.due("none", Harness.term(x, "v a"), 9);
        e.due("it has none", x.about(9, 1), 0);
        e.due("a KIND of 13 letters", Harness.term(x, "u a abcdefghijklm"), -1);
        e.due("two KINDS", Harness.term(x, "u a k k"), -1);
    }

    private void spellingLengths() {
        e.says("terms III", "SPELLINGS of a TERM are rows of at most 12 SIGNS:");
        // the longest there are: eight SIGNS of one SOUND, and a KIND; or ECHOES that save none
        ScribeBlocks x = e.made("sign a 1 1 sounds a; sign x 1 1 sounds aa; sign k 1 1 kind k; echo 3;", "t aaaaaaaa k");
        dueSpells(x, Edges.times("a", 8, " ") + " k", 1);
        dueSpells(x, "x a x a x a a a k", 1);
        dueSpells(x, Edges.times("a", 9, " ") + " k", 0);
        dueSpells(x, Edges.times("a", 11, " ") + " k", 0);
        dueSpells(x, Edges.times("a", 12, " ") + " k", 0);
        dueSpells(x, Edges.times("a", 23, " ") + " k", 0);

        e.says("terms III", "BODY, then, if it has a KIND, one SIGN of that KIND.");
        String list = "sign a 1 1 sounds a; sign i 1 1 means t; sign k 1 1 kind k; sign l 1 1 kind k; sign m 1 1 kind m;";
        dueSpellings(list, "t a", 3);
        dueSpellings(list, "t a k", 6);
        dueSpellings(list, "t a m", 3);
        dueSpellings(list, "t a n", 0);
        dueSpellings(list, "t a i", 0);
        x = e.made(list, "t a k");
        dueSpells(x, "a k", 1);
        dueSpells(x, "a l", 1);
        dueSpells(x, "i k", 1);
        dueSpells(x, "i a l", 1);
        String[] not = {"a", "i", "i a", "k", "k a", "a m", "a k k", "a k l", "k l", "i k a", "a i k"};
        for (String row : not) {
            dueSpells(x, row, 0);
        }
        x = e.made(list, "t a");
        dueSpells(x, "a k", 0);
        dueSpells(x, "a", 1);
    }

    private void ideas() {
        e.says("terms III", "BODY: an IDEA of its name alone;");
        dueSpellings("sign i 1 1 means t;", "t abcdefgh", 1);
        dueSpellings("sign i 1 1 means t; sign j 1 1 means t;", "t a", 2);
        dueSpellings("sign i 1 1 means s;", "t a", 0);
        dueSpellings("sign t 1 1;", "t a", 0);
        dueSpellings("sign i 1 1 kind t;", "t a", 0);
        dueSpellings("sign i 1 1 means a;", "t a", 0);
        dueSpellings("", "t a", 0);
        ScribeBlocks x = e.made("sign i 1 1 means t; sign j 1 1 means t;", "t a");
        dueSpells(x, "i", 1);
        dueSpells(x, "j", 1);
        dueSpells(x, "i i", 0);
        dueSpells(x, "i j", 0);
    }

    private void tails() {
        e.says("terms III", "or an IDEA of its name and behind it a TAIL: one SIGN of SOUNDS that are the last ones"
                + " of the ROW (or all);");
        String list = "sign i 1 1 means t; sign c 1 1 sounds c; sign x 1 1 sounds bc; sign y 1 1 sounds abc;"
                + "sign a 1 1 sounds a; sign z 1 1 sounds ab; sign w 1 1 sounds cb; echo 3;";
        ScribeBlocks x = e.made(list, "t abc");
        dueSpells(x, "i", 1);
        dueSpells(x, "i c", 1);
        dueSpells(x, "i x", 1);
        dueSpells(x, "i y", 1);
        String[] not = {"i a", "i z", "i w", "i c c", "i x c", "i y c", "i x x", "c i", "i i c", "i a x", "i i"};
        for (String row : not) {
            dueSpells(x, row, 0);
        }
        // i, i c, i x, i y; y, y c; a x, a x c; z c, z b? no SIGN of b
        e.due("spellings", x.spellings(0), 4 + 2 + 2 + 1);
        // a TAIL that is longer than the ROW is none
        dueSpellings("sign i 1 1 means t; sign x 1 1 sounds bc; sign y 1 1 sounds abc;", "t c", 1);
        dueSpellings("sign i 1 1 means t; sign x 1 1 sounds bc; sign y 1 1 sounds abc;", "t bc", 3);
        dueSpellings("sign i 1 1 means t; sign x 1 1 sounds aa; sign y 1 1 sounds aaa;", "t a", 1);
        dueSpellings("sign i 1 1 means t; sign x 1 1 sounds aa; sign y 1 1 sounds aaa;", "t aa", 2 + 1);
        dueSpellings("sign i 1 1 means t; sign x 1 1 sounds ba; sign y 1 1 sounds aba;", "t b", 1);
        dueSpellings("sign i 1 1 means t; sign y 1 1 sounds fgh;", "t abcdefgh", 2);
        dueSpellings("sign c 1 1 sounds c; sign i 1 1 means t;", "t bc", 2);
        // a SIGN of a KIND or without value is none
        dueSpellings("sign i 1 1 means t; sign c 1 1; sign d 1 1 kind c;", "t c", 1);
    }

    private void covers() {
        e.says("terms III", "or a COVER: SIGNS of SOUNDS that one behind the other are the ROW;");
        String list = "sign a 1 1 sounds a; sign b 1 1 sounds b; sign c 1 1 sounds c; sign x 1 1 sounds ab;"
                + "sign y 1 1 sounds bc; sign z 1 1 sounds abc; echo 0;";
        ScribeBlocks x = e.made(list, "t abc");
        String[] right = {"a b c", "x c", "a y", "z"};
        for (String row : right) {
            dueSpells(x, row, 1);
        }
        String[] not = {"a", "a b", "b c", "x", "y", "a b c c", "a a b c", "x y", "x b c", "c b a", "y a", "z z", "x x"};
        for (String row : not) {
            dueSpells(x, row, 0);
        }
        e.due("spellings", x.spellings(0), 4);
        dueSpellings(list, "t abcabc", 16);
        dueSpellings(list, "t abca", 4);
        dueSpellings(list, "t d", 0);
        dueSpellings(list, "t abcd", 0);
        dueSpellings("sign p 1 1 sounds p; sign x 1 1 sounds ppp; echo 0;", "t pppppppp", 13);
        dueSpellings("sign a 1 1 sounds a; sign x 1 1 sounds aaa;", "t aa", 1);
    }

    private void echoes() {
        e.says("terms III", "behind each of these that has two SOUNDS or more there may be an ECHO:");
        ScribeBlocks x = e.made("sign x 1 1 sounds ab; sign b 1 1 sounds b; sign a 1 1 sounds a; sign z 1 1 sounds aab;"
                + "echo 3;", "t abaab");
        dueSpells(x, "x z", 1);
        dueSpells(x, "x b z", 1);
        dueSpells(x, "x z b", 1);
        dueSpells(x, "x b z b", 1);
        dueSpells(x, "a b z b", 1);
        dueSpells(x, "a b a x b", 1);
        // one behind each, not two; none behind a SIGN of one SOUND, an ECHO, the first place
        dueSpells(x, "x b b z", 0);
        dueSpells(x, "x z b b", 0);
        dueSpells(x, "a a b z", 0);
        dueSpells(x, "a b b z", 0);
        dueSpells(x, "b x z", 0);
        dueSpellings("sign b 1 1 sounds b; echo 3;", "t b", 1);
        dueSpellings("sign x 1 1 sounds ab; sign b 1 1 sounds b; echo 3;", "t ab", 2);
        dueSpellings("sign z 1 1 sounds abc; sign c 1 1 sounds c; echo 3;", "t abc", 2);
    }

    private void echoSounds() {
        e.says("terms III", "a SIGN of one SOUND, the last one of the SIGN ahead;");
        ScribeBlocks x = e.made("sign x 1 1 sounds ab; sign b 1 1 sounds b; sign d 1 1 sounds b; sign a 1 1 sounds a;"
                + "sign y 1 1 sounds bb; sign c 1 1 sounds c; sign k 1 1 kind b; sign n 1 1; sign i 1 1 means b;", "t ab");
        dueSpells(x, "x b", 1);
        dueSpells(x, "x d", 1);
        String[] not = {"x a", "x y", "x c", "x k", "x n", "x i", "x x"};
        for (String row : not) {
            dueSpells(x, row, 0);
        }
        e.due("x, x b, x d, a b, a d", x.spellings(0), 5);
    }

    private void mostEchoes() {
        e.says("terms III", "at most echo ECHOES in a SPELLING.");
        String list = "sign x 1 1 sounds ab; sign b 1 1 sounds b; echo ";
        int[] of = {1, 1 + 4, 1 + 4 + 6, 1 + 4 + 6 + 4};
        for (int echo = 0; echo <= 3; echo++) {
            dueSpellings(list + echo + ";", "t abababab", of[echo]);
            ScribeBlocks x = e.made(list + echo + ";", "t abababab");
            dueSpells(x, "x x x x", 1);
            dueSpells(x, "x b x x x", echo >= 1 ? 1 : 0);
            dueSpells(x, "x x x x b", echo >= 1 ? 1 : 0);
            dueSpells(x, "x b x x x b", echo >= 2 ? 1 : 0);
            dueSpells(x, "x b x b x b x", echo >= 3 ? 1 : 0);
            dueSpells(x, "x x b x b x b", echo >= 3 ? 1 : 0);
            dueSpells(x, "x b x b x b x b", 0);
        }
        // what isn't told is one
        dueSpellings("sign x 1 1 sounds ab; sign b 1 1 sounds b;", "t abab", 3);
    }

    private void oneRow() {
        e.says("terms III", "Two are one, if their SIGNS are.");
        dueSpellings("sign a 1 1 sounds a; sign b 1 1 sounds a;", "t a", 2);
        dueSpellings("sign a 1 1 sounds a;", "t aaaaaaaa", 1);

        e.says("terms III", "(A row that is a COVER in two ways is one SPELLING.)");
        // x y, x b b; with an ECHO x b y, x y b, x b b b
        String list = "sign x 1 1 sounds ab; sign y 1 1 sounds bb; sign b 1 1 sounds b; echo 1;";
        dueSpellings(list, "t abbb", 5);
        ScribeBlocks x = e.made(list, "t abbbbb");
        // x, an ECHO, bb, b, b; or x, b, bb, an ECHO, b
        dueSpells(x, "x b y b b", 1);
        e.due("one WAY", x.ways(), 1);
        e.due("5 without ECHO, 5 with one behind x, 3 behind y alone", x.spellings(0), 13);
        x = e.made("sign x 1 1 sounds bb; sign b 1 1 sounds b; echo 3;", "t bbbb");
        // without ECHO: x x, x b b, b x b, b b x, b b b b; with one: x b x, x x b, x b b b, b x b b, b b x b; two: x b x b
        e.due("11", x.spellings(0), 11);
    }

    private void paint() {
        e.says("terms III", "PAINT of a row: the sum of width times height of its SIGNS.");
        dueBest("sign a 60 60 sounds a; sign k 60 60 kind k;", "t aaaaaaaa k", 9 * 3600, 0, 0, 0, 0, 0, 0, 0, 0, 1);
        dueBest("sign a 3 5 sounds a; sign b 7 2 sounds b;", "t abb", 15 + 14 + 14, 0, 1, 1);
        dueBest("sign a 1 1 sounds a;", "t a", 1, 0);
    }

    private void bestOfAll() {
        e.says("terms III", "BEST SPELLING: the least PAINT;");
        dueBest("sign x 3 3 sounds ab; sign a 2 2 sounds a; sign b 2 2 sounds b;", "t ab", 8, 1, 2);
        dueBest("sign a 2 2 sounds a; sign b 2 3 sounds b; sign x 3 3 sounds ab;", "t ab", 9, 2);
        dueBest("sign a 2 2 sounds a; sign i 1 3 means t;", "t a", 3, 1);
        dueBest("sign i 1 5 means t; sign a 2 2 sounds a;", "t a", 4, 1);
        dueBest("sign a 2 2 sounds a; sign k 3 3 kind k; sign l 2 4 kind k;", "t a k", 12, 0, 2);
        dueBest("sign l 2 4 kind k; sign k 3 3 kind k; sign a 2 2 sounds a;", "t a k", 12, 2, 0);
        // a SIGN that goes beyond the ROW, by the first SOUND of all, covers nothing
        dueBest("sign b 3 3 sounds b; sign x 1 1 sounds ba; sign y 1 1 sounds baa; sign k 3 3 kind k;", "t b k", 18, 0, 3);
        dueBest("sign b 3 3 sounds b; sign x 1 1 sounds ba; sign y 1 1 sounds baa;", "t b", 9, 0);
        dueBest("sign x 1 1 sounds ba; sign y 1 1 sounds baa; sign k 3 3 kind k;", "t b k", -1);
        // never with a TAIL or an ECHO
        dueBest("sign i 9 9 means t; sign b 1 1 sounds b;", "t ab", 81, 0);
        dueBest("sign x 9 9 sounds ab; sign b 1 1 sounds b; echo 3;", "t abab", 162, 0, 0);

        e.says("terms III", "then the fewest SIGNS;");
        dueBest("sign a 2 2 sounds a; sign b 2 2 sounds b; sign x 8 1 sounds ab;", "t ab", 8, 2);
        dueBest("sign a 2 2 sounds a; sign b 2 2 sounds b; sign i 8 1 means t;", "t ab", 8, 2);
        dueBest("sign a 1 1 sounds a; sign x 2 1 sounds aa; sign z 3 1 sounds aaa;", "t aaaaaaaa", 8, 1, 2, 2);

        e.says("terms III", "then the least row of SIGNS.");
        dueBest("sign a 2 2 sounds a; sign i 4 1 means t;", "t a", 4, 0);
        dueBest("sign i 4 1 means t; sign a 2 2 sounds a;", "t a", 4, 0);
        dueBest("sign b 2 2 sounds b; sign c 4 1 sounds a; sign a 2 2 sounds a;", "t ab", 8, 1, 0);
        dueBest("sign b 2 2 sounds bc; sign c 2 2 sounds a; sign d 2 2 sounds ab; sign a 2 2 sounds c;", "t abc", 8, 1, 0);
        dueBest("sign b 2 2 sounds bc; sign d 2 2 sounds ab; sign c 2 2 sounds a; sign a 2 2 sounds c;", "t abc", 8, 1, 3);
        dueBest("sign a 1 1 sounds a; sign x 2 1 sounds aa; sign z 3 1 sounds aaa;", "t aaaa", 4, 0, 2);
        dueBest("sign a 2 2 sounds a; sign k 3 3 kind k; sign l 9 1 kind k;", "t a k", 13, 0, 1);
    }

    // ---- promises 13 to 17

    private void term() {
        e.says("promise 13", "THE TAPE is W ROW [W]: the name, the ROW, the KIND of a TERM: its number;");
        ScribeBlocks x = e.made("sign i 2 2 means name; sign k 1 1 kind kin; sign s 1 1 sounds abc;");
        e.due("three", Harness.term(x, "name ab kin"), 0);
        e.due("name and KIND", x.best(0), 5);
        e.due("two", Harness.term(x, "other abc"), 1);
        e.due("ROW", x.best(1), 1);
        e.due("a SIGN's name, its own ROW", Harness.term(x, "ab ab ab"), 2);
        e.due("a SIGN's name", Harness.term(x, "s a"), 3);
    }

    private void termRefused() {
        e.says("promise 13", "NONE: it is none such;");
        ScribeBlocks x = e.made("", "t a");
        String[] none = {"", " \n", "u", "u 1", "u q", "u abcdefghi", "u a 1", "u a k k", "u a;", "u a k;", "1 a", "; u a",
            "u-a", "u (a)", "abcdefghijklm a", "u abcdefghijklm", "u a abcdefghijklm", "U a", "u A", "u a K", "t",
            "t q", "t abcdefghi", "u a\u00e9"};
        for (String text : none) {
            e.due("'" + text + "'", Harness.term(x, text), -1);
            e.due("TERMS", x.count(1), 1);
        }
        e.due("an empty TAPE", x.term(), -1);

        e.says("promise 13", "STATE: one has that name;");
        e.due("alike", Harness.term(x, "t a"), -4);
        e.due("another ROW, a KIND", Harness.term(x, "t bcd k"), -4);
        e.due("TERMS", x.count(1), 1);
        e.due("it stays as it was", x.about(0, 0), 1);
        e.due("it stays as it was", x.about(0, 1), 0);
        Harness.list(x, "");
        e.due("behind another LIST", Harness.term(x, "t a"), -4);

        e.says("promise 13", "FULL.");
        for (int t = 1; t < 40; t++) {
            e.due("term " + t, Harness.term(x, Edges.name(t) + " a"), t);
        }
        e.due("the 41st", Harness.term(x, "u a"), -3);
        e.due("again", Harness.term(x, "u a"), -3);
        e.due("TERMS", x.count(1), 40);
        e.due("one of them", Harness.term(x, Edges.name(39) + " a"), -4);
        e.due("the first of them", Harness.term(x, "t b"), -4);
        e.due("none such", Harness.term(x, "u q"), -1);
        Harness.list(x, "");
        e.due("behind another LIST", Harness.term(x, "u a"), -3);
    }

    private void about() {
        e.says("promise 14", "Of TERM t, what 0: SOUNDS, 1: 1 if it has a KIND, else 0;");
        ScribeBlocks x = e.made("", "s ponmlkji k", "t a");
        e.due("SOUNDS", x.about(0, 0), 8);
        e.due("KIND", x.about(0, 1), 1);
        e.due("SOUNDS", x.about(1, 0), 1);
        e.due("no KIND", x.about(1, 1), 0);

        e.says("promise 14", "10 + i: SOUND i.");
        for (int i = 0; i < 8; i++) {
            e.due("SOUND " + i, x.about(0, 10 + i), 15 - i);
        }
        e.due("SOUND 0", x.about(1, 10), 0);

        e.says("promise 14", "-9 when there is none such.");
        e.dueAll("no SOUND", -9, x.about(0, 18), x.about(0, 19), x.about(1, 11), x.about(1, 17));
        e.dueAll("no what", -9, x.about(0, 2), x.about(0, 3), x.about(0, 9), x.about(0, 42));
        e.dueAll("no TERM", -9, x.about(2, 0), x.about(3, 1), x.about(39, 0), x.about(40, 0), x.about(2, 10));
        for (int far : Edges.FAR) {
            e.dueAll("far " + far, -9, x.about(far, 0), x.about(0, far), x.about(far, far));
        }
    }

    private static String alike(int many, String sounds) {
        StringBuilder list = new StringBuilder();
        for (int s = 0; s < many; s++) {
            list.append("sign ").append((char) ('a' + s)).append(" 1 1 sounds ").append(sounds).append(';');
        }
        return list.toString();
    }

    private void spellings() {
        e.says("promise 15", "How many SPELLINGS a TERM has; at most 100000, FULL beyond;");
        String ten = alike(10, "a");
        dueSpellings(ten, "t aaaa", 10000);
        dueSpellings(ten, "t aaaaa", 100000);
        dueSpellings(ten + "sign z 1 1 means t;", "t aaaaa", -3);
        dueSpellings(ten + "sign z 1 1 means t;", "s aaaaa", 100000);
        dueSpellings(ten + "sign k 1 1 kind k;", "t aaaaa k", 100000);
        dueSpellings(ten + "sign k 1 1 kind k; sign l 1 1 kind k;", "t aaaaa k", -3);
        dueSpellings(ten + "sign z 1 1 means t; sign k 1 1 kind k;", "t aaaaa k", -3);
        dueSpellings(ten + "sign k 1 1 kind l;", "t aaaaa k", 0);
        dueSpellings(ten, "t aaaaaa", -3);
        dueSpellings(ten, "t aaaaaaaa", -3);
        dueSpellings(ten, "t aaaaaaab", 0);
        dueSpellings(alike(9, "a"), "t aaaaa", 59049);
        // 40 SIGNS of one SOUND: 40 times 40 .. beyond all ints
        StringBuilder forty = new StringBuilder();
        for (int s = 0; s < 40; s++) {
            forty.append("sign ").append(Edges.name(s)).append(" 1 1sounds a;");
        }
        // 9 of a, 10 of aa: 9091 for aaaa; 11 KINDS: 100001
        StringBuilder many = new StringBuilder("echo 0;");
        for (int s = 0; s < 19; s++) {
            many.append("sign ").append(Edges.name(s)).append(s < 9 ? " 1 1sounds a;" : " 1 1sounds aa;");
        }
        for (int s = 19; s < 30; s++) {
            many.append("sign ").append(Edges.name(s)).append(s < 29 ? " 1 1kind k;" : " 1 1kind l;");
        }
        dueSpellings(many.toString(), "t aaaa", 9091);
        dueSpellings(many.toString(), "t aaaa k", 90910);
        dueSpellings(many.toString().replace("kind l", "kind k"), "t aaaa k", -3);
        dueSpellings(forty.toString(), "t aaa", 64000);
        dueSpellings(forty.toString(), "t aaaa", -3);
        dueSpellings(forty.toString(), "t aaaaaaaa", -3);
        dueSpellings("", "t a", 0);

        e.says("promise 15", "RANGE.");
        ScribeBlocks x = e.made("sign a 1 1 sounds a;", "t a");
        e.dueAll("no TERM", -2, x.spellings(1), x.spellings(2), x.spellings(39), x.spellings(40));
        for (int far : Edges.FAR) {
            e.due("spellings(" + far + ")", x.spellings(far), -2);
        }
        e.due("the one there is", x.spellings(0), 1);
    }

    private void best() {
        e.says("promise 16", "PAINT of the BEST SPELLING of a TERM; NONE: it has none; RANGE.");
        ScribeBlocks x = e.made("sign a 2 3 sounds a; sign k 1 1 kind k;", "t a", "u b", "v a l", "w b k");
        e.due("PAINT", x.best(0), 6);
        e.dueAll("none", -1, x.best(1), x.best(2), x.best(3));
        e.dueAll("no TERM", -2, x.best(4), x.best(5), x.best(40));
        for (int far : Edges.FAR) {
            e.due("best(" + far + ")", x.best(far), -2);
        }
        Harness.list(x, "sign b 1 1 sounds b;");
        e.due("by another LIST none", x.best(0), -1);
        e.due("by another LIST one", x.best(1), 1);
        // TERMS that come behind a call know THE LIST too
        Harness.term(x, "z bb");
        e.due("a new TERM", x.best(4), 2);
    }

    private void bestSign() {
        e.says("promise 17", "SIGN i of the BEST SPELLING of a TERM; NONE.");
        ScribeBlocks x = e.made("sign a 2 3 sounds a; sign b 1 1 sounds b; sign k 1 1 kind k;", "t ab k", "u c", "v b");
        e.due("SIGN 0", x.bestSign(0, 0), 0);
        e.due("SIGN 1", x.bestSign(0, 1), 1);
        e.due("SIGN 2", x.bestSign(0, 2), 2);
        e.due("another TERM", x.bestSign(2, 0), 1);
        e.dueAll("behind", -1, x.bestSign(0, 3), x.bestSign(0, 9), x.bestSign(0, 10), x.bestSign(2, 1));
        e.dueAll("of none", -1, x.bestSign(1, 0), x.bestSign(1, 1));
        e.dueAll("no TERM", -1, x.bestSign(3, 0), x.bestSign(40, 0));
        for (int far : Edges.FAR) {
            e.dueAll("far " + far, -1, x.bestSign(0, far), x.bestSign(far, 0), x.bestSign(1, far));
        }
    }
}
