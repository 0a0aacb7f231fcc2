/** THE TAPE, TOKENS, THE LIST and its FAULTS: terms I, promises 1 to 8. */
final class TextEdges {
    private final Edges e;

    TextEdges(Edges e) {
        this.e = e;
    }

    void all() {
        sounds();
        tapeOf800();
        readEmpties();
        blanks();
        words();
        numbers();
        marks();
        clauses();
        rows();
        fortySigns();
        namesAlike();
        widthsAndHeights();
        values();
        bounds();
        untold();
        placesOfFaults();
        firstFault();
        syntax();
        range();
        twice();
        room();
        newObject();
        feed();
        feedOrder();
        feedFull();
        end();
        endNone();
        list();
        listForgets();
        fault();
        rule();
        sign();
        named();
    }

    // ---- terms I

    private void sounds() {
        e.says("terms I", "SOUNDS are the letters a .. p.");
        for (char letter = 'a'; letter <= 'z'; letter++) {
            ScribeBlocks x = new ScribeBlocks();
            boolean sound = letter <= 'p';
            e.due("list, " + letter, Harness.list(x, "sign s 1 1 sounds " + letter + ";"), sound ? 1 : -1);
            e.due("its SOUND", x.sign(0, 10), sound ? letter - 'a' : -9);
            e.due("term, " + letter, Harness.term(x, "t " + letter), sound ? 0 : -1);
            e.due("its SOUND", x.about(0, 10), sound ? letter - 'a' : -9);
            Harness.list(x, "sign s 1 1;");
            e.due("value, " + letter, Harness.value(x, "" + letter, 0, 0, 0), sound ? 1 : -1);
            e.due("its SOUND", x.valueOn(0, 0, 0, 10), sound ? letter - 'a' : -1);
        }
    }

    private void tapeOf800() {
        e.says("terms I", "THE TAPE has at most 800 bytes;");
        ScribeBlocks x = new ScribeBlocks();
        String text = "sign a 1 1;" + " ".repeat(800 - 22) + "sign b 2 3;";
        e.due("a LIST of 800 bytes", Harness.list(x, text), 2);
        e.due("its last clause", x.sign(1, 1), 3);
        Harness.tape(x, " ".repeat(800));
        e.due("bytes", x.count(7), 800);
        e.due("no more", x.feed(0, 0, 0, 0, 0), -3);
        e.due("bytes", x.count(7), 800);
        e.due("list", Harness.list(x, "\n".repeat(799) + "?"), -1);
        e.due("the last byte's FAULT", x.fault(1), 799);
    }

    private int reads(ScribeBlocks x, int call) {
        switch (call) {
            case 0: return x.list();
            case 1: return x.named();
            case 2: return x.blocks();
            case 3: return x.term();
            case 4: return x.write();
            default: return x.value(0, 0, 5);
        }
    }

    private void readEmpties() {
        e.says("terms I", "each call that reads it empties it, whatever it tells.");
        String[] right = {"sign a 1 1 sounds a;", "a", "a*a", "t a", "a a", "a"};
        String[] wrong = {"sign a 1 1 sounds a", "", "a*", "t", "oh", "q"};
        ScribeBlocks x = e.made(right[0]);
        for (int call = 0; call < 6; call++) {
            Harness.tape(x, wrong[call]);
            e.due("refused call " + call, reads(x, call), -1);
            e.due("bytes behind refused call " + call, x.count(7), 0);
            Harness.tape(x, right[call]);
            e.due("right call " + call + " is answered", reads(x, call) >= 0 ? 1 : 0, 1);
            e.due("bytes behind right call " + call, x.count(7), 0);
            e.due("nothing comes back", x.end(1), -1);
        }
        e.due("STATE", Harness.term(x, "t a"), -4);
        e.due("bytes behind STATE", x.count(7), 0);
        e.due("RANGE: SIGN", Harness.value(x, "a", 1, 0, 5), -2);
        e.due("bytes behind RANGE", x.count(7), 0);
        e.due("RANGE: from", Harness.value(x, "a", 0, -1, 5), -2);
        e.due("bytes behind RANGE", x.count(7), 0);
        e.due("RANGE: the day fell", Harness.value(x, "a", 0, 0, 4), -2);
        e.due("bytes behind RANGE", x.count(7), 0);
        ScribeBlocks full = e.made("sign a 1 1;");
        for (int t = 0; t < 40; t++) {
            Harness.term(full, Edges.name(t) + " a");
        }
        e.due("FULL", Harness.term(full, "more a"), -3);
        e.due("bytes behind FULL", full.count(7), 0);
        for (int v = 0; v < 60; v++) {
            Harness.value(full, "a", 0, 0, 0);
        }
        e.due("FULL", Harness.value(full, "a", 0, 0, 0), -3);
        e.due("bytes behind FULL", full.count(7), 0);
        Harness.tape(full, "left");
        full.fault(0);
        full.rule(0);
        full.ways();
        full.waysOn(0, 0);
        full.read();
        full.group();
        full.fill(1);
        full.judge();
        full.clear();
        full.say(0);
        full.face(true);
        e.due("others leave it", full.count(7), 4);
    }

    private void blanks() {
        e.says("terms I", "TOKENS with any blanks (32, 10) between:");
        e.listRight("sign a 1 2;gap 3;", 2);
        e.listRight(" \n\n sign \n a  1\n2 ;\ngap\n3\n;\n \n", 2);
        ScribeBlocks x = e.listRight("sign a1 2sounds abc;sign b3 4means a;gap0;", 3);
        e.due("width without a blank ahead", x.sign(0, 0), 1);
        e.due("height of the second", x.sign(1, 1), 4);
        for (int b = 0; b < 256; b++) {
            x = new ScribeBlocks();
            boolean blank = b == 32 || b == 10;
            e.due("byte " + b + " between", Harness.list(x, "gap 1" + (char) b + ";"), blank ? 1 : -1);
            e.due("byte " + b + " ahead", Harness.list(x, (char) b + "gap 1;"), blank ? 1 : -1);
        }
        x = e.made("sign a 1 1 sounds a;");
        e.due("named", Harness.named(x, "\n a \n"), 0);
        e.due("blocks", Harness.blocks(x, " ( a\n* a )\n- a "), 2);
        e.due("term", Harness.term(x, "\nt\n\nab  k "), 0);
        e.due("write", Harness.write(x, "\na \n a\n"), 2);
        e.due("value", Harness.value(x, " \nb\n ", 0, 0, 0), 1);
        e.due("a tab: named", Harness.named(x, "a\t"), -1);
        e.due("a tab: write", Harness.write(x, "a\ta"), -1);
        e.due("a tab: term", Harness.term(x, "u\ta"), -1);
        e.due("a tab: value", Harness.value(x, "\tb", 0, 0, 0), -1);
        e.due("a tab: blocks", Harness.blocks(x, "a\t"), -1);
    }

    private void words() {
        e.says("terms I", "WORDS (small letters, as many as there are, 12 at most),");
        String twelve = "abcdefghijkl";
        String z = "zzzzzzzzzzzz";
        ScribeBlocks x = e.listRight("sign " + twelve + " 1 1 means " + z + "; sign " + z + " 2 2 kind " + twelve + ";", 2);
        e.due("its name", Harness.named(x, twelve), 0);
        e.due("all letters count", Harness.named(x, "abcdefghijkk"), -1);
        e.due("all letters count", Harness.named(x, "bbcdefghijkl"), -1);
        e.due("z", Harness.named(x, z), 1);
        e.due("one letter less", Harness.named(x, z.substring(1)), -1);
        e.due("13 letters", Harness.named(x, twelve + "m"), -1);
        e.due("13 letters behind ones alike", Harness.named(x, "a" + twelve), -1);
        e.due("24 letters", Harness.named(x, z + z), -1);
        e.due("a large letter", Harness.named(x, "Abcdefghijkl"), -1);
        e.due("blocks, 12", Harness.blocks(x, twelve), 1);
        e.due("write, 12", Harness.write(x, twelve + " " + z), 2);
        e.due("write, 13", Harness.write(x, twelve + "a"), -1);
        e.due("term, 12", Harness.term(x, z + " a " + twelve), 0);
        e.due("its SPELLING: the IDEA, the KIND", x.best(0), 5);
        e.due("term, 13", Harness.term(x, z + "z a"), -1);
        e.due("term's KIND of 13", Harness.term(x, "t a " + z + "z"), -1);
        e.listFault("signa 1 1;", 1, 0);
        e.listFault("sig na 1 1;", 1, 0);
        e.listFault("gap 1; gapa 1;", 1, 7);
        e.listFault("sign aB 1 1;", 1, 6);
        e.listFault("sign `a 1 1;", 1, 5);
        e.listFault("sign {a 1 1;", 1, 5);
    }

    private void numbers() {
        e.says("terms I", "N (digits, as many as there are, 4 at most),");
        ScribeBlocks x = e.listRight("sign a 0060 0001; gap 0009; square 0099; least 0100; echo 0003;", 5);
        e.due("width", x.sign(0, 0), 60);
        e.due("height", x.sign(0, 1), 1);
        e.due("least", x.rule(3), 100);
        e.listFault("gap 00009;", 1, 4);
        e.listFault("gap 00000;", 1, 4);
        e.listFault("sign a 00001 1;", 1, 7);
        e.listFault("sign a 1 000010;", 1, 9);
        e.listFault("gap 9999;", 2, 4);
        e.listFault("gap 4294967296;", 1, 4);
        e.listFault("gap 1 1;", 1, 6);
        e.listFault("gap /;", 1, 4);
        e.listFault("gap 1/;", 1, 5);
        x = e.listRight("sign a 19 28; square 75;", 2);
        e.due("width", x.sign(0, 0), 19);
        e.due("height", x.sign(0, 1), 28);
        e.due("square", x.rule(2), 75);
        x = e.listRight("sign a 34 56; least 60;", 2);
        e.due("width", x.sign(0, 0), 34);
        e.due("height", x.sign(0, 1), 56);
    }

    private void marks() {
        e.says("terms I", "; : * & - ( ).");
        e.blocksRight("(a:b)*c&d-e", 2);
        e.listRight("gap 1;", 1);
        String marks = ";:*&-()";
        for (int b = 33; b < 256; b++) {
            boolean token = marks.indexOf(b) >= 0 || b >= '0' && b <= '9' || b >= 'a' && b <= 'z';
            if (!token) {
                e.blocksFault("a-" + (char) b, 1, 2);
            }
        }
        // these are TOKENS, but no text of BLOCKS goes on with them here
        e.blocksFault("a-;", 1, 2);
        e.blocksFault("a-9", 1, 2);
        e.blocksFault("a--", 1, 2);
    }

    private void clauses() {
        e.says("terms I", "THE LIST is a text = {clause \";\"}.");
        e.listRight("", 0);
        e.listRight(" \n", 0);
        e.listRight("gap 1;", 1);
        e.listRight("gap 1;echo 1;", 2);
        e.listFault("gap 1", 1, 5);
        e.listFault("gap 1;;", 1, 6);
        e.listFault(";", 1, 0);
        e.listFault("gap 1; echo 1", 1, 13);
        e.listFault("gap 1: echo 1;", 1, 5);

        e.says("terms I", "clause = \"sign\" W N N [\"sounds\" ROW | \"means\" W | \"kind\" W]"
                + " | \"gap\" N | \"square\" N | \"least\" N | \"echo\" N.");
        e.listRight("sign a 1 1; sign b 1 1 sounds a; sign c 1 1 means a; sign d 1 1 kind a; gap 1; square 8;"
                + "least 1; echo 1;", 8);
        e.listRight("echo 1; least 1; square 8; gap 1; sign a 1 1;", 5);
        // the words of clauses are names too
        ScribeBlocks x = e.listRight("sign sign 1 1 means sounds; sign sounds 1 1 kind kind; sign gap 1 1 sounds a;"
                + "sign means 1 1 means means; sign echo 1 1;", 5);
        e.due("named", Harness.named(x, "sign"), 0);
        e.due("named", Harness.named(x, "echo"), 4);
        String[] cut = {"sign", "sign a", "sign a 1", "sign a 1 1", "sign a 1 1 sounds", "sign a 1 1 sounds a",
            "sign a 1 1 means", "sign a 1 1 means a", "sign a 1 1 kind", "sign a 1 1 kind a", "gap", "square", "least",
            "echo", "square 8"};
        for (String text : cut) {
            e.listFault(text, 1, text.length());
            e.listFault(text + " \n", 1, text.length() + 2);
            e.listFault(text + " )", 1, text.length() + 1);
        }
        String[] first = {"sign", "gap", "square", "least", "echo"};
        for (String word : first) {
            for (int i = 0; i < word.length(); i++) {
                e.listFault(word.substring(0, i) + "z" + word.substring(i + 1) + " 1 1 1;", 1, 0);
                e.listFault(word.substring(0, i) + word.substring(i + 1) + " 1 1 1;", 1, 0);
            }
        }
        String[] inner = {"sounds", "means", "kind"};
        for (String word : inner) {
            for (int i = 0; i < word.length(); i++) {
                e.listFault("sign a 1 1 " + word.substring(0, i) + "z" + word.substring(i + 1) + " a;", 1, 11);
                e.listFault("sign a 1 1 " + word.substring(0, i) + word.substring(i + 1) + " a;", 1, 11);
            }
        }
        e.listFault("sign a 1 1 sounds a means a;", 1, 20);
        e.listFault("sign a 1 1 means a kind a;", 1, 19);
        e.listFault("sign a 1 1 kind a kind a;", 1, 18);
        e.listFault("sign a 1 1 1;", 1, 11);
        e.listFault("sign a 1 1 gap 1;", 1, 11);
        e.listFault("gap 1 sign a 1 1;", 1, 6);
        e.listFault("sounds a;", 1, 0);
        e.listFault("kind a;", 1, 0);
    }

    private void rows() {
        e.says("terms I", "ROW: a WORD of letters a .. p alone.");
        ScribeBlocks x = e.listRight("sign s 1 1 sounds pap;", 1);
        int[] pap = {15, 0, 15};
        for (int i = 0; i < 3; i++) {
            e.due("SOUND " + i, x.sign(0, 10 + i), pap[i]);
        }
        String[] others = {"q", "qa", "aq", "aqa", "z", "aaz", "aaaaq", "abcdefghijkq"};
        for (String row : others) {
            e.listFault("sign s 1 1 sounds " + row + ";", 1, 18);
            e.due("term, " + row, Harness.term(x, "t " + row), -1);
            e.due("value, " + row, Harness.value(x, row, 0, 0, 0), -1);
        }
        e.listFault("sign s 1 1 sounds 1;", 1, 18);
    }

    private void fortySigns() {
        e.says("terms I", "SIGNS, at most 40, numbered from 0 as they come:");
        ScribeBlocks x = e.listRight(Edges.signs(40), 40);
        for (int s = 0; s < 40; s++) {
            e.due("number of " + Edges.name(s), Harness.named(x, Edges.name(s)), s);
        }
        e.due("SIGNS", x.rule(0), 40);
        e.due("the last", x.sign(39, 0), 1);
        e.due("no SIGN 40", x.sign(40, 0), -9);
        e.listFault(Edges.signs(41), 4, Edges.signs(40).length());
        e.listRight(Edges.signs(40) + "gap 1;", 41);
    }

    private void namesAlike() {
        e.says("terms I", "a name (no two alike),");
        e.listFault("sign a 1 1; sign a 1 1;", 3, 17);
        e.listFault("sign abcdefghijkl 1 1; sign b 1 1; sign abcdefghijkl 1 1;", 3, 40);
        e.listRight("sign a 1 1; sign aa 1 1; sign aaa 1 1; sign ab 1 1; sign ba 1 1;", 5);
        e.listRight("sign abcdefghijkl 1 1; sign abcdefghijkk 1 1; sign abcdefghijk 1 1; sign bcdefghijkl 1 1;", 4);
        e.listRight("sign a 1 1 means a; sign b 1 1 means a; sign c 1 1 kind a; sign d 1 1 sounds a;", 4);
    }

    private void widthsAndHeights() {
        e.says("terms I", "a width and a height (1 .. 60),");
        ScribeBlocks x = e.listRight("sign a 1 60; sign b 60 1;", 2);
        e.due("width 1", x.sign(0, 0), 1);
        e.due("height 60", x.sign(0, 1), 60);
        e.due("width 60", x.sign(1, 0), 60);
        e.due("height 1", x.sign(1, 1), 1);
        e.listFault("sign a 0 1;", 2, 7);
        e.listFault("sign a 61 1;", 2, 7);
        e.listFault("sign a 1 0;", 2, 9);
        e.listFault("sign a 1 61;", 2, 9);
        e.listFault("sign a 9999 1;", 2, 7);
        e.listFault("sign a 1 9999;", 2, 9);
    }

    private void values() {
        e.says("terms I", "and a value: SOUNDS (1 .. 3),");
        ScribeBlocks x = e.listRight("sign a 1 1 sounds a; sign b 1 1 sounds ab; sign c 1 1 sounds abc;", 3);
        for (int s = 0; s < 3; s++) {
            e.due("how many", x.sign(s, 3), s + 1);
        }
        e.listFault("sign a 1 1 sounds abcd;", 2, 18);
        e.listFault("sign a 1 1 sounds;", 1, 17);

        e.says("terms I", "the name of a TERM (an IDEA), the name of a KIND, or none.");
        x = e.made("sign a 1 1 means t; sign b 2 2 kind k; sign c 1 1; sign k 1 1 means k;", "t a k", "u a", "k b t");
        e.due("IDEA", x.sign(0, 2), 2);
        e.due("KIND", x.sign(1, 2), 3);
        e.due("none", x.sign(2, 2), 0);
        e.due("the IDEA of t with its KIND", x.best(0), 5);
        e.due("nothing spells u", x.best(1), -1);
        e.due("an IDEA is no KIND", x.best(2), -1);
    }

    private void bounds() {
        String[] rule = {"gap", "square", "least", "echo"};
        String[] says = {"Bounds: gap 0 .. 9,", "square 8 .. 99,", "least 1 .. 100,", "echo 0 .. 3."};
        int[] low = {0, 8, 1, 0};
        int[] high = {9, 99, 100, 3};
        for (int r = 0; r < 4; r++) {
            e.says("terms I", says[r]);
            for (int n = 0; n <= 110; n++) {
                ScribeBlocks x = new ScribeBlocks();
                boolean right = n >= low[r] && n <= high[r];
                e.due(rule[r] + " " + n, Harness.list(x, rule[r] + " " + n + ";"), right ? 1 : -1);
                e.due("KIND", x.fault(0), right ? 0 : 2);
                e.due("PLACE", x.fault(1), right ? -1 : rule[r].length() + 1);
                if (right) {
                    e.due("it holds", x.rule(r + 1), n);
                }
            }
        }
    }

    private void untold() {
        e.says("terms I", "What isn't told: gap 1, square 24, least 50, echo 1.");
        String[] rule = {"gap 7;", "square 77;", "least 77;", "echo 2;"};
        int[] told = {7, 77, 77, 2};
        int[] untold = {1, 24, 50, 1};
        ScribeBlocks x = new ScribeBlocks();
        for (int r = 0; r < 4; r++) {
            // all the others go back to what isn't told
            e.due("gap, square, least, echo", Harness.list(x, "gap 3; square 33; least 33; echo 3;"), 4);
            e.due(rule[r], Harness.list(x, rule[r]), 1);
            for (int w = 0; w < 4; w++) {
                e.due(rule[r] + " rule(" + (w + 1) + ")", x.rule(w + 1), w == r ? told[w] : untold[w]);
            }
        }
        Harness.list(x, "");
        for (int w = 0; w < 4; w++) {
            e.due("nothing told, rule(" + (w + 1) + ")", x.rule(w + 1), untold[w]);
        }
    }

    private void placesOfFaults() {
        e.says("terms I", "FAULTS: KIND and PLACE (a TOKEN's first byte;");
        e.listFault("gap  \n 12345;", 1, 7);
        e.listFault("gap 1; abcdefghijklm", 1, 7);
        e.listFault("  sine", 1, 2);
        e.listFault("gap 1;\nsquare 100;", 2, 14);
        e.listFault("sign a 1 1;sign  a 1 1;", 3, 17);
        e.listFault("sign a 1 1 sounds  abcd;", 2, 19);
        e.blocksFault("a *  oh", 5, 5);

        e.says("terms I", "the text's length at its end),");
        e.listFault("gap", 1, 3);
        e.listFault("gap ", 1, 4);
        e.listFault("gap \n\n ", 1, 7);
        e.blocksFault("", 1, 0);
        e.blocksFault("   ", 1, 3);
        e.blocksFault("a* ", 1, 3);
        e.blocksFault("(a", 1, 2);
        ScribeBlocks x = new ScribeBlocks();
        e.due("800 bytes", Harness.list(x, " ".repeat(797) + "gap"), -1);
        e.due("PLACE", x.fault(1), 800);
    }

    private void firstFault() {
        e.says("terms I", "the first come to as TOKENS are read one by one,");
        e.listFault("gap 10; sine", 2, 4);
        e.listFault("gap 1; gap 10; ?", 3, 7);
        e.listFault("sign a 0 0;", 2, 7);
        e.listFault("sign a 1 1 sounds abcd ?", 2, 18);
        e.listFault("sign a 1 1; sign a ?", 3, 17);
        e.listFault("? gap 10;", 1, 0);
        e.blocksFault("oh**", 5, 0);
        e.blocksFault("a**oh", 1, 2);
        e.blocksFault("((((((", 4, 4);
        e.blocksFault("oh-((((((", 5, 0);

        e.says("terms I", "of one TOKEN the least KIND:");
        // SYNTAX ahead of RANGE, TWICE, ROOM, UNKNOWN
        e.listFault("sign a 1 1 sounds abcdq;", 1, 18);
        e.listFault("sign a 1 1 sounds abcdefghijklm;", 1, 18);
        e.listFault(Edges.signs(40) + "sine", 1, Edges.signs(40).length());
        e.blocksFault(Edges.times("a", 12, "-") + "-*", 1, 24);
        e.blocksFault(Edges.times("a", 24, "*") + " oh", 1, 48);
        e.blocksFault(Edges.times("a", 24, "*") + "*abcdefghijklm", 1, 48);
        e.blocksFault("((((a(", 1, 5);
        e.blocksFault("a oh", 1, 2);
        // ROOM ahead of UNKNOWN
        e.blocksFault(Edges.times("a", 12, "-") + "-oh", 4, 24);
        e.blocksFault(Edges.times("a", 24, "*") + "*oh", 4, 48);
    }

    private void syntax() {
        e.says("terms I", "1 SYNTAX: a TOKEN (or byte that is none,");
        e.listFault("gap 1, ", 1, 5);
        e.listFault("gap . 1;", 1, 4);
        e.listFault("gap 1;\t", 1, 6);
        e.listFault("gap 1;\u0000", 1, 6);
        e.listFault("gap 1;\u00ff", 1, 6);
        e.listFault("gap 1;\u00e1 ", 1, 6);
        e.listFault("gap \u00b1;", 1, 4);
        e.listFault("gap 1\u00bb", 1, 5);
        e.blocksFault("a\u00aab", 1, 1);
        e.blocksFault("A", 1, 0);

        e.says("terms I", "a WORD of 13 letters, an N of five digits;");
        e.listFault("abcdefghijklm", 1, 0);
        e.listFault("sign abcdefghijklm 1 1;", 1, 5);
        e.listFault("sign a 1 1 means abcdefghijklm;", 1, 17);
        e.listFault("sign a 1 1 kind abcdefghijklm;", 1, 16);
        e.listFault("sign a 1 1 abcdefghijklm;", 1, 11);
        e.blocksFault("aaaaaaaaaaaaa", 1, 0);
        // where a mark is wanted that stood ahead already
        e.listFault("gap 1; echo 1 abcdefghijklm", 1, 14);
        e.listFault("gap 1; echo 1 12345", 1, 14);
        e.listFault("gap 1; echo 1 ? sign", 1, 14);
        e.blocksFault("a*b aaaaaaaaaaaaa c", 1, 4);
        e.blocksFault("a*b 12345 c", 1, 4);
        e.blocksFault("a-b 12345 c", 1, 4);
        e.blocksFault("a&aaaaaaaaaaaaa", 1, 2);
        e.listFault("sign a 00001 1;", 1, 7);
        e.listFault("sign a 1 00001;", 1, 9);
        e.listFault("echo 00001;", 1, 5);

        e.says("terms I", "a ROW with another letter) with which no text goes on.");
        e.listFault("sign a 1 1 sounds q;", 1, 18);
        e.listFault("sign a 1 1 sounds abz;", 1, 18);
        e.listFault("sign a 1 1 sounds abcdefghijkz;", 1, 18);
        e.listRight("sign a 1 1 means q;", 1);
        e.listRight("sign a 1 1 kind abz;", 1);
    }

    private void range() {
        e.says("terms I", "2 RANGE: an N out of its bounds;");
        e.listFault("gap 10", 2, 4);
        e.listFault("square 7", 2, 7);
        e.listFault("square 100", 2, 7);
        e.listFault("least 0", 2, 6);
        e.listFault("least 101", 2, 6);
        e.listFault("echo 4", 2, 5);
        e.listFault("sign a 0 ", 2, 7);
        e.listFault("sign a 1 61", 2, 9);

        e.says("terms I", "a ROW of 4 SOUNDS or more.");
        e.listFault("sign a 1 1 sounds abcd", 2, 18);
        e.listFault("sign a 1 1 sounds ponmlkji", 2, 18);
        e.listFault("sign a 1 1 sounds aaaaaaaaa", 2, 18);
        e.listFault("sign a 1 1 sounds abcdefghijkl", 2, 18);
        e.listRight("sign a 1 1 sounds abc;", 1);
    }

    private void twice() {
        e.says("terms I", "3 TWICE: a SIGN's name,");
        e.listFault("sign a 1 1; sign a", 3, 17);
        e.listFault("sign a 1 1; sign b 1 1; sign b", 3, 29);
        e.listFault("sign gap 1 1; gap 1; sign gap", 3, 26);

        e.says("terms I", "or a clause's first WORD, that was told already (but sign).");
        String[] rule = {"gap 1", "square 8", "least 1", "echo 1"};
        for (String told : rule) {
            String first = told.substring(0, told.indexOf(' '));
            e.listFault(told + ";" + first, 3, told.length() + 1);
            e.listFault(told + ";sign a 1 1;" + told + ";", 3, told.length() + 12);
            for (String other : rule) {
                if (!other.equals(told)) {
                    e.listRight(told + ";" + other + ";", 2);
                    e.listFault(told + ";" + other + ";" + told + ";", 3, told.length() + other.length() + 2);
                }
            }
        }
        e.listRight("sign a 1 1; sign b 1 1; sign c 1 1;", 3);
        // what an earlier LIST told, right or wrong, was not told in this one
        ScribeBlocks x = new ScribeBlocks();
        e.due("first", Harness.list(x, "gap 1; sign a 1 1;"), 2);
        e.due("again", Harness.list(x, "gap 1; sign a 1 1;"), 2);
        e.due("a FAULT", Harness.list(x, "gap 1; echo 1; sign b 1 1; ?"), -1);
        e.due("again", Harness.list(x, "gap 1; echo 1; sign b 1 1;"), 3);
    }

    private void room() {
        e.says("terms I", "4 ROOM: the 41st sign, at its first WORD;");
        int length = Edges.signs(40).length();
        e.listFault(Edges.signs(40) + " sign", 4, length + 1);
        e.listFault(Edges.signs(40) + "sign aa 1 1;", 4, length);
        e.listFault(Edges.signs(40) + "gap 1;sign", 4, length + 6);
        e.listRight(Edges.signs(40) + "gap 1;square 8;least 1;echo 1;", 44);
    }

    // ---- promises 1 to 8

    private void newObject() {
        e.says("promise 1", "THE LIST without SIGNS; no TERMS, no BLOCKS.");
        ScribeBlocks other = e.made(Edges.FIVES, "t a");
        Harness.blocks(other, "a");
        ScribeBlocks x = new ScribeBlocks();
        for (int what = 0; what <= 7; what++) {
            e.due("count(" + what + ")", x.count(what), 0);
        }
        int[] rules = {0, 1, 24, 50, 1};
        for (int what = 0; what < 5; what++) {
            e.due("rule(" + what + ")", x.rule(what), rules[what]);
        }
        e.due("sign", x.sign(0, 0), -9);
        e.due("about", x.about(0, 0), -9);
        e.due("block", x.block(0, 0), -9);
        e.due("box", x.box(0, 0), -9);
        e.due("say", x.say(0), -2);
        e.due("value", x.value(0, 0, 0), -2);
        e.due("named", Harness.named(x, "a"), -1);
        e.due("blocks", Harness.blocks(x, "a"), -1);
        e.due("write", Harness.write(x, "a"), -1);
        e.due("the other one has its own", other.count(0), 5);
        e.due("the other one has its own", other.count(2), 1);
    }

    private void feed() {
        e.says("promise 2", "Twenty bytes come behind THE TAPE,");
        ScribeBlocks x = new ScribeBlocks();
        Harness.tape(x, "sign a 1");
        e.due("feed", x.feed(0x32203334, 0x3b736967, 0x6e206220, 0x35203237, 0x3b0a0a20), 28);
        e.due("list", x.list(), 2);
        e.due("width 1 goes on as 12", x.sign(0, 0), 12);
        e.due("height", x.sign(0, 1), 34);
        e.due("width", x.sign(1, 0), 5);
        e.due("height", x.sign(1, 1), 27);
    }

    private void feedOrder() {
        e.says("promise 2", "the highest of each int first:");
        ScribeBlocks x = new ScribeBlocks();
        // "sign abc 12 34;     " in five ints
        e.due("feed", x.feed(0x7369676e, 0x20616263, 0x20313220, 0x33343b20, 0x20202020), 20);
        e.due("list", x.list(), 1);
        e.due("named", Harness.named(x, "abc"), 0);
        e.due("width", x.sign(0, 0), 12);
        e.due("height", x.sign(0, 1), 34);
        // a byte above 127 in each of the four places of an int
        for (int shift = 0; shift < 32; shift += 8) {
            int four = 0x20202020 ^ (0x20 ^ 0xe9) << shift;
            x.feed(0x20202020, four, 0x20202020, 0x20202020, 0x20202020);
            e.due("byte 233", x.list(), -1);
            e.due("its PLACE", x.fault(1), 4 + (24 - shift) / 8);
        }

        e.says("promise 2", "how many it has;");
        x = new ScribeBlocks();
        for (int i = 1; i <= 40; i++) {
            e.due("feed " + i, x.feed(0, 0, 0, 0, 0), 20 * i);
        }
        x.end(7);
        e.due("behind 7", x.feed(0, 0, 0, 0, 0), 27);
        e.due("count(7)", x.count(7), 27);
    }

    private void feedFull() {
        e.says("promise 2", "FULL when there would be more than 800.");
        ScribeBlocks x = new ScribeBlocks();
        Harness.tape(x, "gap 3;" + " ".repeat(794));
        e.due("801 .. 820", x.feed(0x3f3f3f3f, 0, 0, 0, 0), -3);
        e.due("bytes", x.count(7), 800);
        e.due("nothing came", x.list(), 1);
        e.due("gap", x.rule(1), 3);
        for (int n = 779; n <= 800; n++) {
            x = new ScribeBlocks();
            Harness.tape(x, "gap 4;" + " ".repeat(n - 6));
            e.due("feed behind " + n, x.feed(0x20202020, 0x20202020, 0x20202020, 0x20202020, 0x20202020),
                    n <= 780 ? n + 20 : -3);
            e.due("bytes", x.count(7), n <= 780 ? n + 20 : n);
            e.due("list", x.list(), 1);
        }
    }

    private void end() {
        e.says("promise 3", "THE TAPE has its first n bytes alone: n;");
        ScribeBlocks x = new ScribeBlocks();
        e.due("end(0) of none", x.end(0), 0);
        Harness.tape(x, "gap 1;gap 2; ? ? ? ?");
        e.due("all", x.end(20), 20);
        e.due("six", x.end(6), 6);
        e.due("six again", x.end(6), 6);
        e.due("bytes", x.count(7), 6);
        e.due("list", x.list(), 1);
        e.due("the first", x.rule(1), 1);
        Harness.tape(x, "gap 7;gap 2;");
        e.due("none", x.end(0), 0);
        e.due("bytes", x.count(7), 0);
        x.feed(0x65636820, 0x20202020, 0x20202020, 0x20202020, 0x20202020);
        e.due("from the first byte on", x.list(), -1);
        e.due("a WORD of three", x.fault(1), 0);
        // a TOKEN ends where THE TAPE ends, whatever was cut off
        String[] cut = {"gap 1|23;", "gap|s", "echo 1;squ|are 8;", "sign a 1 1 sounds a|b;", "gap |1;", "gap 1|;"};
        for (String text : cut) {
            int many = text.indexOf('|');
            Harness.tape(x, text.replace("|", ""));
            x.end(many);
            e.due("cut: " + text, x.list(), -1);
            boolean word = text.startsWith("echo");
            e.due("PLACE: " + text, x.fault(1), word ? 7 : many);
        }
        Harness.list(x, "sign a 1 1; sign ab 1 1;");
        Harness.tape(x, "ab");
        x.end(1);
        e.due("named", x.named(), 0);
    }

    private void endNone() {
        e.says("promise 3", "NONE when it has not so many, or n is below 0.");
        ScribeBlocks x = new ScribeBlocks();
        e.due("end(1) of none", x.end(1), -1);
        Harness.tape(x, "gap 1;");
        e.due("one more", x.end(7), -1);
        e.due("bytes stay", x.count(7), 6);
        for (int n : Edges.FAR) {
            e.due("end(" + n + ")", x.end(n), -1);
        }
        e.due("800", x.end(800), -1);
        e.due("bytes stay", x.count(7), 6);
        e.due("cut", x.end(3), 3);
        e.due("what was cut is gone", x.end(4), -1);
        Harness.tape(x, " ".repeat(800));
        e.due("801", x.end(801), -1);
        e.due("800", x.end(800), 800);
    }

    private void list() {
        e.says("promise 4", "THE TAPE is THE LIST: how many clauses;");
        ScribeBlocks x = new ScribeBlocks();
        e.due("44 clauses", Harness.list(x, Edges.signs(40) + "gap 1;square 8;least 1;echo 1;"), 44);
        e.due("one", Harness.list(x, "sign z 9 9;"), 1);
        e.due("SIGNS of the latest alone", x.rule(0), 1);
        e.due("those ahead are gone", Harness.named(x, "aa"), -1);
        // a SIGN that a shorter LIST has no more does nothing, whatever it was
        String[] gone = {"sounds b", "means t", "kind k", "sounds c"};
        for (String value : gone) {
            ScribeBlocks y = e.made("sign a 1 1 sounds a; sign b 1 1 " + value + ";", "t b", "u a k", "v a", "w ac");
            y.say(0);
            for (int t = 0; t < 4; t++) {
                y.spellings(t);
                y.best(t);
            }
            Harness.list(y, "sign a 1 1 sounds a;");
            for (int t = 0; t < 4; t++) {
                e.due("spellings(" + t + ") without " + value, y.spellings(t), t == 2 ? 1 : 0);
                e.due("best(" + t + ") without " + value, y.best(t), t == 2 ? 1 : -1);
            }
            e.due("fills without " + value, y.fills(), 0);
            y.clear();
            y.say(1);
            e.due("fills without " + value, y.fills(), 0);
        }
        ScribeBlocks z = e.made("sign i 9 9 means t; sign b 9 9 sounds b; square 9; least 100;", "t ab");
        z.say(0);
        e.due("an IDEA, or with a TAIL", z.fills(), 2);
        Harness.list(z, "sign i 9 9 means t; square 9; least 100;");
        e.due("without the TAIL", z.fills(), 1);
        e.due("an empty one", Harness.list(x, ""), 0);
        e.due("no SIGNS", x.rule(0), 0);
        e.due("again, without bytes", x.list(), 0);

        e.says("promise 4", "NONE with a FAULT (it stays).");
        e.due("list", Harness.list(x, "sign a 3 4 sounds ab; gap 2; square 9; least 7; echo 3;"), 5);
        String[] wrong = {"?", "sign b 5 6; sign c 7 8; gap 0", "gap 4; square 100;", "sign c 1 1; sign c 1 1;",
            "sign b 9 9 sounds ppp; square 20; least 20; echo 0; gap 5; gap 5;"};
        for (String text : wrong) {
            e.due(text, Harness.list(x, text), -1);
            int[] rules = {1, 2, 9, 7, 3};
            for (int what = 0; what < 5; what++) {
                e.due("rule(" + what + ") behind " + text, x.rule(what), rules[what]);
            }
            int[] sign = {3, 4, 1, 2};
            for (int what = 0; what < 4; what++) {
                e.due("sign(0, " + what + ") behind " + text, x.sign(0, what), sign[what]);
            }
            e.due("its second SOUND", x.sign(0, 11), 1);
            e.due("a behind " + text, Harness.named(x, "a"), 0);
            e.due("b behind " + text, Harness.named(x, "b"), -1);
        }
    }

    private static final String RICH = "sign a 5 5 sounds a; sign b 6 6 sounds b;";

    private ScribeBlocks rich() {
        ScribeBlocks x = e.made(RICH, "t a", "u b");
        x.say(0);
        x.face(true);
        Harness.blocks(x, "a*b-a");
        Harness.write(x, "a a");
        Harness.value(x, "b", 0, 5, 500);
        e.due("read", x.read(), 2);
        e.due("group", x.group(), 1);
        e.due("fill", x.fill(1), 25);
        return x;
    }

    private void listForgets() {
        e.says("promise 4", "(BLOCKS, the row that was WRITTEN, VALUES are none then, and what was told of these;");
        String[] lists = {RICH, ""};
        for (String text : lists) {
            ScribeBlocks x = rich();
            e.due("a LIST", Harness.list(x, text) >= 0 ? 0 : 1, 0);
            e.due("BLOCKS", x.count(2), 0);
            e.due("SIGNS of the BLOCKS", x.count(3), 0);
            e.due("block", x.block(0, 0), -9);
            e.due("box", x.box(0, 0), -9);
            e.due("judge", x.judge(), -4);
            e.due("SIGNS WRITTEN", x.count(4), 0);
            e.due("written", x.written(0), -1);
            e.dueAll("ways, read, group, spells", -4, x.ways(), x.waysOn(0, 0), x.read(), x.group(), x.spells(0));
            e.dueAll("readTerm, grouped", -1, x.readTerm(0, 0), x.readTerm(1, 1), x.grouped(0, 0), x.grouped(0, 1));
            e.due("VALUES", x.count(6), 0);
            e.due("TERMS stay", x.count(1), 2);
            e.due("the PASSAGE stays", x.count(5), 1);
            e.due("it faces left still", x.face(true), 0);
        }
        ScribeBlocks x = rich();
        Harness.list(x, RICH);
        e.due("no VALUE", x.valueOn(0, 999, 999, 10), 0);
        Harness.write(x, "a");
        e.due("no VALUE in WAYS", x.waysOn(999, 999), 1);
        e.due("u is spelled by b alone", x.spells(1), 0);

        e.says("promise 4", "days of telling begin at 0 again.)");
        x = rich();
        e.due("a day below the latest", Harness.value(x, "b", 0, 5, 499), -2);
        e.due("a FAULT", Harness.list(x, RICH + "?"), -1);
        e.due("the day stays", Harness.value(x, "b", 0, 5, 499), -2);
        Harness.list(x, RICH);
        e.due("day 0", Harness.value(x, "b", 0, 5, 0), 1);
        e.due("day 0 again", Harness.value(x, "b", 0, 5, 0), 2);
        e.due("day 3", Harness.value(x, "b", 0, 5, 3), 3);
        e.due("day 2", Harness.value(x, "b", 0, 5, 2), -2);
    }

    private void fault() {
        e.says("promise 5", "Of the latest list() or blocks(), what 0: its FAULT's KIND, 0 without (and ahead of any),");
        ScribeBlocks x = new ScribeBlocks();
        e.due("ahead of any", x.fault(0), 0);
        Harness.list(x, "gap 10;");
        e.due("RANGE", x.fault(0), 2);
        Harness.named(x, "?");
        Harness.term(x, "?");
        Harness.write(x, "?");
        Harness.value(x, "?", 0, 0, 0);
        e.due("others leave it", x.fault(0), 2);
        e.due("others leave it", x.fault(1), 4);
        Harness.list(x, "sign a 1 1;");
        e.due("without", x.fault(0), 0);
        Harness.blocks(x, "a:oh");
        e.due("UNKNOWN", x.fault(0), 5);
        Harness.list(x, "gap 1; gap 1;");
        e.due("the latest", x.fault(0), 3);
        Harness.blocks(x, "a");
        e.due("without", x.fault(0), 0);

        e.says("promise 5", "1: its PLACE (NONE).");
        x = new ScribeBlocks();
        e.due("ahead of any", x.fault(1), -1);
        Harness.list(x, "gap 10;");
        e.due("RANGE", x.fault(1), 4);
        Harness.list(x, "sign a 1 1;");
        e.due("without", x.fault(1), -1);
        Harness.blocks(x, "a:oh");
        e.due("UNKNOWN", x.fault(1), 2);
        Harness.blocks(x, "a");
        e.due("without", x.fault(1), -1);

        e.says("promise 5", "NONE for another what.");
        Harness.blocks(x, "a:oh");
        e.dueAll("2, 3, 10, 11", -1, x.fault(2), x.fault(3), x.fault(10), x.fault(11));
        for (int what : Edges.FAR) {
            e.due("fault(" + what + ")", x.fault(what), -1);
        }
    }

    private void rule() {
        e.says("promise 6", "Of THE LIST, what 0: SIGNS, 1: gap, 2: square, 3: least, 4: echo.");
        ScribeBlocks x = e.made("sign a 1 1; sign b 1 1; gap 9; square 99; least 100; echo 3;");
        int[] want = {2, 9, 99, 100, 3};
        for (int what = 0; what < 5; what++) {
            e.due("rule(" + what + ")", x.rule(what), want[what]);
        }
        e.says("promise 6", "-9 when there is none such.");
        e.dueAll("5, 6, 10", -9, x.rule(5), x.rule(6), x.rule(10));
        for (int what : Edges.FAR) {
            e.due("rule(" + what + ")", x.rule(what), -9);
        }
    }

    private void sign() {
        e.says("promise 7", "Of SIGN s, what 0: width, 1: height, 2: 0 no value, 1 SOUNDS, 2 an IDEA, 3 a KIND,");
        ScribeBlocks x = e.made("sign a 3 4; sign b 5 6 sounds pa; sign c 7 8 means t; sign d 9 10 kind k;");
        int[][] want = {{3, 4, 0}, {5, 6, 1}, {7, 8, 2}, {9, 10, 3}};
        for (int s = 0; s < 4; s++) {
            for (int what = 0; what < 3; what++) {
                e.due("sign(" + s + ", " + what + ")", x.sign(s, what), want[s][what]);
            }
        }
        e.says("promise 7", "3: how many SOUNDS (0);");
        e.due("two", x.sign(1, 3), 2);
        e.dueAll("of others", 0, x.sign(0, 3), x.sign(2, 3), x.sign(3, 3));
        e.says("promise 7", "10 + i: SOUND i.");
        e.due("SOUND 0", x.sign(1, 10), 15);
        e.due("SOUND 1", x.sign(1, 11), 0);
        e.says("promise 7", "-9 when there is none such.");
        e.dueAll("no SOUND", -9, x.sign(1, 12), x.sign(1, 13), x.sign(0, 10), x.sign(2, 10), x.sign(3, 10));
        e.dueAll("no what", -9, x.sign(1, 4), x.sign(1, 9), x.sign(1, 18), x.sign(1, 42));
        e.dueAll("no SIGN", -9, x.sign(4, 0), x.sign(5, 0), x.sign(39, 0), x.sign(40, 0), x.sign(4, 10));
        for (int far : Edges.FAR) {
            e.dueAll("far " + far, -9, x.sign(far, 0), x.sign(1, far), x.sign(far, far));
        }
        // SIGNS of an earlier LIST are gone, and so are their values
        Harness.list(x, "sign a 1 1; sign b 1 1;");
        e.dueAll("gone", -9, x.sign(2, 0), x.sign(3, 2), x.sign(1, 10));
        e.dueAll("no value left", 0, x.sign(1, 2), x.sign(1, 3));
    }

    private void named() {
        e.says("promise 8", "THE TAPE is a name: its SIGN;");
        ScribeBlocks x = e.made(Edges.signs(40));
        e.due("the first", Harness.named(x, "aa"), 0);
        e.due("the last", Harness.named(x, Edges.name(39)), 39);
        e.says("promise 8", "NONE: none, or it is no name.");
        String[] none = {"", " ", "zz", "a", "aaa", "aa aa", "aa;", "aa 1", "1", "-", "(aa)", "AA", "aa\u00e9", "\u00e9",
            "abcdefghijklm"};
        for (String text : none) {
            e.due("'" + text + "'", Harness.named(x, text), -1);
        }
        e.due("an empty TAPE", x.named(), -1);
        ScribeBlocks y = new ScribeBlocks();
        e.due("no SIGNS", Harness.named(y, "aa"), -1);
    }
}
