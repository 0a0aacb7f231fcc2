import java.io.IOException;
import java.nio.file.Files;
import java.nio.file.Path;
import java.util.BitSet;
import java.util.Map;
import java.util.TreeMap;
import java.util.regex.Matcher;
import java.util.regex.Pattern;

/**
 * Tests that each stand for words of the document. says() names where they stand and quotes them;
 * the answers that are asked for behind it are those that these words make due. finish() fails when
 * a quote isn't in the document, or when words of a promise or of the terms were never quoted.
 */
final class Edges {
    private static final Path DOC = Path.of("../shared/DOC.md");
    /** The promises that the terms are for. */
    private static final Map<String, String> PROMISES = Map.of("terms I", " (promises 2 to 9, 13, 18, 33)",
            "terms II", " (promises 9 to 12)", "terms III", " (promises 13 to 17, 20 to 24)",
            "terms IV", " (promises 25 to 31)", "terms V", " (promises 21, 32 to 34)",
            "what it is", " (all promises)", "the constants", " (all promises)");

    private final Harness h = new Harness();
    private final Map<String, String> sections = new TreeMap<>();
    private final Map<String, BitSet> quoted = new TreeMap<>();

    Edges() throws IOException {
        h.watch(120);
        if (!Files.exists(DOC)) {
            System.out.println("no " + DOC + ": quotes are not compared with it");
            return;
        }
        String doc = Files.readString(DOC);
        Matcher promise = Pattern.compile("(?m)^## (Promise \\d+):.*\\n\\n`[^`]*`: (.*)$").matcher(doc);
        while (promise.find()) {
            put(promise.group(1).replace('P', 'p'), promise.group(2));
        }
        String terms = doc.substring(doc.indexOf("## Terms"), doc.indexOf("The constants:"));
        Matcher term = Pattern.compile("(?ms)^(I|II|III|IV|V)\\. (.*?)(?=^[IV]+\\. |\\z)").matcher(terms);
        while (term.find()) {
            put("terms " + term.group(1), term.group(2));
        }
        String uses = doc.substring(doc.indexOf("An object is used"), doc.indexOf("## The public face"));
        put("what it is", uses);
        String constants = doc.substring(doc.indexOf("The constants:"), doc.indexOf("Ahead of the calls"));
        put("the constants", constants.replace("`", ""));
        h.part("the document");
        h.due("its sections", sections.size(), 42);
    }

    private void put(String section, String text) {
        sections.put(section, plain(text.replaceAll("```(text)?", "")));
        quoted.put(section, new BitSet());
    }

    private static String plain(String text) {
        return text.replaceAll("\\s+", " ").trim();
    }

    /** What is asked next would be answered otherwise if these words of the document were broken. */
    void says(String section, String words) {
        h.part(section + PROMISES.getOrDefault(section, "") + ", '" + words + "'");
        if (sections.isEmpty()) {
            return;
        }
        String text = sections.getOrDefault(section, "");
        int at = text.indexOf(plain(words));
        h.due("the document says so", at < 0 ? 0 : 1, 1);
        if (at >= 0) {
            quoted.get(section).set(at, at + plain(words).length());
        }
    }

    void due(String call, int got, int want) {
        h.due(call, got, want);
    }

    /** Several answers at once; each is due to be the same. */
    void dueAll(String call, int want, int... got) {
        for (int i = 0; i < got.length; i++) {
            h.due(call + " [" + i + "]", got[i], want);
        }
    }

    void finish() {
        for (Map.Entry<String, String> section : sections.entrySet()) {
            h.part(section.getKey());
            String left = unquoted(section.getValue(), quoted.get(section.getKey()));
            h.due("words without a test: " + left, left.isEmpty() ? 0 : 1, 0);
        }
        h.finish();
    }

    private static String unquoted(String text, BitSet marks) {
        StringBuilder left = new StringBuilder();
        for (int at = 0; at < text.length(); at++) {
            boolean counts = Character.isLetterOrDigit(text.charAt(at)) && !marks.get(at);
            if (counts) {
                left.append(text.charAt(at));
            } else if (left.length() > 0 && left.charAt(left.length() - 1) != ' ') {
                left.append(' ');
            }
        }
        return left.toString().trim();
    }

    // ---- objects to ask

    /** Numbers that are below or beyond all bounds; some of them wrap around when ten is taken off. */
    static final int[] FAR = {Integer.MIN_VALUE, Integer.MIN_VALUE + 9, Integer.MIN_VALUE + 10, -1000, -11, -10, -1,
        1000, 65536, Integer.MAX_VALUE - 10, Integer.MAX_VALUE};

    /** A new object with THE LIST and TERMS; a text that is refused is a wrong test. */
    ScribeBlocks made(String list, String... terms) {
        ScribeBlocks x = new ScribeBlocks();
        if (Harness.list(x, list) < 0) {
            throw new IllegalStateException("no LIST: " + list);
        }
        for (String term : terms) {
            if (Harness.term(x, term) < 0) {
                throw new IllegalStateException("no TERM: " + term);
            }
        }
        return x;
    }

    /** A LIST with this FAULT, on a new object. */
    void listFault(String text, int kind, int place) {
        ScribeBlocks x = new ScribeBlocks();
        due("list of " + text, Harness.list(x, text), -1);
        due("KIND in " + text, x.fault(0), kind);
        due("PLACE in " + text, x.fault(1), place);
    }

    /** A LIST without FAULT, on a new object. */
    ScribeBlocks listRight(String text, int clauses) {
        ScribeBlocks x = new ScribeBlocks();
        due("list of " + text, Harness.list(x, text), clauses);
        due("KIND in " + text, x.fault(0), 0);
        due("PLACE in " + text, x.fault(1), -1);
        return x;
    }

    /** BLOCKS with this FAULT, by SIGNS a .. e of 5 by 5. */
    void blocksFault(String text, int kind, int place) {
        ScribeBlocks x = made(FIVES);
        due("blocks of " + text, Harness.blocks(x, text), -1);
        due("KIND in " + text, x.fault(0), kind);
        due("PLACE in " + text, x.fault(1), place);
    }

    /** BLOCKS without FAULT, by SIGNS a .. e of 5 by 5. */
    ScribeBlocks blocksRight(String text, int blocks) {
        ScribeBlocks x = made(FIVES);
        due("blocks of " + text, Harness.blocks(x, text), blocks);
        due("KIND in " + text, x.fault(0), 0);
        due("PLACE in " + text, x.fault(1), -1);
        return x;
    }

    static final String FIVES = "sign a 5 5; sign b 5 5; sign c 5 5; sign d 5 5; sign e 5 5;";

    /** Of two letters, so that 40 of them find room on THE TAPE. */
    static String name(int s) {
        return "" + (char) ('a' + s / 20) + (char) ('a' + s % 20);
    }

    static String signs(int many) {
        StringBuilder text = new StringBuilder();
        for (int s = 0; s < many; s++) {
            text.append("sign ").append(name(s)).append(" 1 1;");
        }
        return text.toString();
    }

    static String times(String what, int many, String between) {
        return many == 0 ? "" : what + (between + what).repeat(many - 1);
    }
}
