import java.util.function.ToIntFunction;

/**
 * Calls that are refused, and questions: an object on which one was called answers everything as its
 * twin does, on which it was not. Each of the two is used for fewer than 512 calls.
 */
final class RefusedEdges {
    private static final String LIST = "sign a 5 5 sounds a; sign b 6 6 sounds ab; sign i 7 7 means t; sign k 4 4 kind k;"
            + "sign z 60 60; sign q 3 3 sounds b; echo 2; gap 2; square 20; least 30;";
    private static final int PLAIN = 0;
    private static final int FULL_OF_TERMS = 1;
    private static final int FULL_OF_VALUES = 2;

    private final Edges e;

    RefusedEdges(Edges e) {
        this.e = e;
    }

    void all() {
        constants();
        lastCall();
        tape();
        texts();
        fullOfTerms();
        fullOfValues();
        numbers();
        questions();
    }

    private void constants() {
        e.says("the constants", "The constants: NONE = -1: There is none.");
        e.due("NONE", ScribeBlocks.NONE, -1);
        e.says("the constants", "RANGE = -2: A number that can't be.");
        e.due("RANGE", ScribeBlocks.RANGE, -2);
        e.says("the constants", "FULL = -3: No room.");
        e.due("FULL", ScribeBlocks.FULL, -3);
        e.says("the constants", "STATE = -4: Not as things are.");
        e.due("STATE", ScribeBlocks.STATE, -4);
    }

    private void lastCall() {
        e.says("what it is", "An object is used for at most 512 calls after it has been made; what later calls answer is free.");
        ScribeBlocks x = new ScribeBlocks();
        Harness.list(x, "sign a 1 1 sounds a;");
        Harness.term(x, "t a");
        // 9 calls so far
        for (int call = 10; call < 512; call++) {
            e.due("call " + call, x.face(call % 2 == 0), 1);
        }
        e.due("call 512", x.best(0), 1);
    }

    // ---- the twins

    private static ScribeBlocks rich(int how) {
        ScribeBlocks x = new ScribeBlocks();
        Harness.list(x, LIST);
        Harness.term(x, "t aab");
        Harness.term(x, "u a k");
        Harness.term(x, "v ab");
        Harness.blocks(x, "a*b&i-z-(q:a)*b");
        Harness.write(x, "a b a k");
        x.read();
        x.group();
        Harness.value(x, "b", 0, 10, 20);
        Harness.value(x, "ba", 4, 30, 40);
        for (int t = 3; how == FULL_OF_TERMS && t < 40; t++) {
            tell(x, Edges.name(t) + " ba");
            x.term();
        }
        for (int v = 2; how == FULL_OF_VALUES && v < 60; v++) {
            tell(x, "p");
            x.value(v % 5, 50 + v, 60);
        }
        int said = how == FULL_OF_TERMS ? 12 : 2;
        for (int i = 0; i < said; i++) {
            x.say(i % 3);
        }
        x.fill(said);
        x.face(true);
        Harness.tape(x, "left");
        return x;
    }

    /** A text of at most 20 bytes on an empty TAPE, in two calls. */
    private static void tell(ScribeBlocks x, String text) {
        byte[] all = new byte[20];
        for (int i = 0; i < 20; i++) {
            all[i] = (byte) (i < text.length() ? text.charAt(i) : ' ');
        }
        int[] five = new int[5];
        for (int i = 0; i < 20; i++) {
            five[i / 4] = five[i / 4] << 8 | all[i];
        }
        x.feed(five[0], five[1], five[2], five[3], five[4]);
        x.end(text.length());
    }

    private static String everything(ScribeBlocks x, boolean faults) {
        StringBuilder all = new StringBuilder();
        for (int what = 0; what < 8; what++) {
            all.append(" count ").append(x.count(what));
        }
        if (faults) {
            all.append(" fault ").append(x.fault(0)).append(' ').append(x.fault(1));
        }
        for (int what = 0; what < 5; what++) {
            all.append(" rule ").append(x.rule(what));
        }
        int[] whats = {0, 1, 2, 3, 10, 11};
        for (int s = 0; s < 7; s++) {
            for (int what : whats) {
                all.append(" sign ").append(x.sign(s, what));
            }
        }
        for (int b = 0; b < 3; b++) {
            all.append(" block ").append(x.block(b, 0)).append(' ').append(x.block(b, 1)).append(' ').append(x.block(b, 3));
        }
        for (int k = 0; k < 7; k++) {
            all.append(" box ").append(x.box(k, 0)).append(' ').append(x.box(k, 2)).append(' ').append(x.box(k, 3));
        }
        results(x, all);
        return all.toString();
    }

    private static void results(ScribeBlocks x, StringBuilder all) {
        for (int i = 0; i < 5; i++) {
            all.append(" written ").append(x.written(i));
        }
        for (int i = 0; i < 3; i++) {
            all.append(" read ").append(x.readTerm(i, 0)).append(' ').append(x.readTerm(i, 1));
            all.append(" grouped ").append(x.grouped(i, 0)).append(' ').append(x.grouped(i, 1));
            all.append(" filled ").append(x.filled(i, 0)).append(' ').append(x.filled(i, 1)).append(' ')
                    .append(x.filled(i, 10));
            all.append(" about ").append(x.about(i, 0)).append(' ').append(x.about(i, 1)).append(' ').append(x.about(i, 12));
            all.append(" best ").append(x.spellings(i)).append(' ').append(x.best(i)).append(' ').append(x.bestSign(i, 0));
            all.append(" spells ").append(x.spells(i));
        }
        all.append(" values ").append(x.valueOn(0, 10, 20, 10)).append(' ').append(x.valueOn(4, 999, 999, 0));
        all.append(" ways ").append(x.ways()).append(' ').append(x.waysOn(10, 20));
        all.append(" judge ").append(x.judge()).append(" fills ").append(x.fills());
        all.append(" faces ").append(x.face(true));
        tell(x, "a");
        all.append(" day 39 ").append(x.value(0, 0, 39));
        tell(x, "a");
        all.append(" day 40 ").append(x.value(0, 0, 40));
        tell(x, "more a");
        all.append(" term ").append(x.term());
    }

    private void same(String what, String one, String other) {
        int at = 0;
        while (at < one.length() && at < other.length() && one.charAt(at) == other.charAt(at)) {
            at++;
        }
        boolean alike = one.equals(other);
        e.due(what + (alike ? "" : ": otherwise from '" + one.substring(Math.max(0, at - 20)) + "'"), alike ? 0 : 1, 0);
    }

    /** A call that reads no text. */
    private void leaves(int how, String call, ToIntFunction<ScribeBlocks> made, int want) {
        ScribeBlocks x = rich(how);
        e.due(call, made.applyAsInt(x), want);
        same(call + " changes nothing", everything(x, true), everything(rich(how), true));
    }

    /** A call that reads a text: THE TAPE is empty then, nothing else is otherwise. */
    private void leaves(int how, String call, String text, ToIntFunction<ScribeBlocks> made, int want) {
        ScribeBlocks x = rich(how);
        Harness.tape(x, text);
        e.due(call + " of '" + text + "'", made.applyAsInt(x), want);
        ScribeBlocks twin = rich(how);
        twin.end(0);
        boolean faults = !call.equals("list") && !call.equals("blocks");
        same(call + " of '" + text + "' changes nothing", everything(x, faults), everything(twin, faults));
    }

    // ---- the calls

    private void tape() {
        e.says("promise 3", "NONE when it has not so many, or n is below 0.");
        leaves(PLAIN, "end(-1)", x -> x.end(-1), -1);
        leaves(PLAIN, "end(5)", x -> x.end(5), -1);
        leaves(PLAIN, "end(4)", x -> x.end(4), 4);
        e.says("promise 2", "FULL when there would be more than 800.");
        ScribeBlocks x = rich(PLAIN);
        ScribeBlocks twin = rich(PLAIN);
        Harness.tape(x, "a ".repeat(400));
        Harness.tape(twin, "a ".repeat(400));
        e.due("feed", x.feed(0x61616161, 0x61616161, 0x61616161, 0x61616161, 0x61616161), -3);
        same("feed changes nothing", everything(x, true), everything(twin, true));
    }

    private void texts() {
        e.says("promise 4", "NONE with a FAULT (it stays).");
        String[] lists = {"?", "sign c 1 1; sign d 1 1 sounds b; gap 9; square 99; least 99; echo 3", "gap 10;", "gap 1; gap 1;",
            "sign a 1 1; sign a 1 1;", Edges.signs(41)};
        for (String text : lists) {
            leaves(PLAIN, "list", text, ScribeBlocks::list, -1);
        }
        e.says("promise 9", "NONE with a FAULT (those ahead stay).");
        String[] drafts = {"", "z*z*z-", "z:oh", "(((((z", Edges.times("z", 13, "-"), Edges.times("z", 25, "*")};
        for (String text : drafts) {
            leaves(PLAIN, "blocks", text, ScribeBlocks::blocks, -1);
        }
        e.says("promise 8", "NONE: none, or it is no name.");
        leaves(PLAIN, "named", "oh", ScribeBlocks::named, -1);
        leaves(PLAIN, "named", "a", ScribeBlocks::named, 0);
        e.says("promise 13", "NONE: it is none such;");
        leaves(PLAIN, "term", "w", ScribeBlocks::term, -1);
        leaves(PLAIN, "term", "w a k k", ScribeBlocks::term, -1);
        e.says("promise 13", "STATE: one has that name;");
        leaves(PLAIN, "term", "t ppp i", ScribeBlocks::term, -4);
        e.says("promise 18", "NONE: it is none (the one ahead stays).");
        leaves(PLAIN, "write", "", ScribeBlocks::write, -1);
        leaves(PLAIN, "write", "b b oh", ScribeBlocks::write, -1);
        leaves(PLAIN, "write", Edges.times("b", 25, " "), ScribeBlocks::write, -1);
        e.says("promise 33", "RANGE: no such SIGN, days, a day of telling below the latest;");
        leaves(PLAIN, "value", "p", x -> x.value(6, 0, 90), -2);
        leaves(PLAIN, "value", "p", x -> x.value(0, 1000, 90), -2);
        leaves(PLAIN, "value", "p", x -> x.value(0, 0, 1000), -2);
        leaves(PLAIN, "value", "p", x -> x.value(0, 0, 39), -2);
        e.says("promise 33", "NONE: it is none;");
        leaves(PLAIN, "value", "pppp", x -> x.value(0, 0, 90), -1);
    }

    private void fullOfTerms() {
        e.says("promise 13", "FULL.");
        leaves(FULL_OF_TERMS, "term", "other a", ScribeBlocks::term, -3);
        e.says("promise 28", "A TERM comes behind the PASSAGE: how many it has; RANGE; FULL: the 13th.");
        leaves(FULL_OF_TERMS, "say(0)", x -> x.say(0), -3);
        leaves(FULL_OF_TERMS, "say(40)", x -> x.say(40), -2);
    }

    private void fullOfValues() {
        e.says("promise 33", "FULL.");
        leaves(FULL_OF_VALUES, "value", "d", x -> x.value(0, 0, 70), -3);
    }

    private void numbers() {
        e.says("promise 28", "A TERM comes behind the PASSAGE: how many it has; RANGE; FULL: the 13th.");
        leaves(PLAIN, "say(-1)", x -> x.say(-1), -2);
        leaves(PLAIN, "say(3)", x -> x.say(3), -2);
        e.says("promise 29", "RANGE;");
        leaves(PLAIN, "fill(0)", x -> x.fill(0), -2);
        leaves(PLAIN, "fill(145)", x -> x.fill(145), -2);
        e.says("promise 29", "FILLED with n squares (1 .. 144): the least PAINT; NONE: it can't be;");
        leaves(PLAIN, "fill(144)", x -> x.fill(144), -1);
        leaves(PLAIN, "fill(1)", x -> x.fill(1), -1);
        e.says("promise 21", "RANGE; STATE.");
        leaves(PLAIN, "waysOn(1000, 0)", x -> x.waysOn(1000, 0), -2);
        e.says("promise 24", "RANGE; STATE.");
        leaves(PLAIN, "spells(3)", x -> x.spells(3), -2);
        e.says("promise 12", "Facing left, or right (at first): 1 if it was otherwise, else 0.");
        leaves(PLAIN, "face(true)", x -> x.face(true), 0);
    }

    private void questions() {
        e.says("promise 20", "WAYS of it; at most 1000000000, FULL beyond;");
        leaves(PLAIN, "ways", ScribeBlocks::ways, 1);
        e.says("promise 21", "Likewise for a day, as KNOWN on a day;");
        leaves(PLAIN, "waysOn(10, 20)", x -> x.waysOn(10, 20), 0);
        e.says("promise 22", "The FIRST WAY of it: how many TERMS; NONE: it has none; STATE.");
        leaves(PLAIN, "read", ScribeBlocks::read, 2);
        e.says("promise 25", "It is GROUPED: how many BLOCKS; NONE: no way is; STATE.");
        leaves(PLAIN, "group", ScribeBlocks::group, 1);
        e.says("promise 31", "How many n there are with which the PASSAGE can be FILLED;");
        leaves(PLAIN, "fills", ScribeBlocks::fills, 1);
        e.says("promise 32", "A DRAFT, the BLOCKS as told, judged against the PASSAGE;");
        leaves(PLAIN, "judge", ScribeBlocks::judge, 2001);
        e.says("promise 15", "How many SPELLINGS a TERM has; at most 100000, FULL beyond;");
        leaves(PLAIN, "spellings(0)", x -> x.spellings(0), 6);
        e.says("promise 16", "PAINT of the BEST SPELLING of a TERM; NONE: it has none; RANGE.");
        leaves(PLAIN, "best(1)", x -> x.best(1), 41);
    }
}
