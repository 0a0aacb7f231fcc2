import java.math.BigInteger;
import java.util.ArrayList;
import java.util.List;
import java.util.Random;
import java.util.TreeMap;
import java.util.TreeSet;

/** Drawn texts and calls (the same at each run), the class's answers against the model's. */
public final class ModelTest {
    private static final Harness H = new Harness();
    private final Random random;
    private final boolean large;
    private final ScribeBlocks x = new ScribeBlocks();
    private final Model m = new Model();
    private List<Model.Part> blocks = new ArrayList<>();
    private List<Integer> written = new ArrayList<>();
    private List<TreeSet<List<Integer>>> spellings = new ArrayList<>();

    private ModelTest(int seed) {
        random = new Random(seed);
        large = seed % 4 == 3;
    }

    public static void main(String[] args) {
        int seeds = args.length > 0 ? Integer.parseInt(args[0]) : 400;
        int first = args.length > 1 ? Integer.parseInt(args[1]) : 0;
        int skipped = 0;
        for (int seed = first; seed < first + seeds && H.wrong() < 20; seed++) {
            H.part("seed " + seed);
            try {
                new ModelTest(seed).run();
            } catch (Model.TooMany e) {
                skipped++;
            }
        }
        System.out.println(skipped + " of " + seeds + " runs ended early: too many SPELLINGS to list");
        H.finish();
    }

    private int draw(int n) {
        return random.nextInt(n);
    }

    private void run() {
        for (int round = 0; round < 2; round++) {
            listing();
            drafts();
            if (round == 0) {
                drawTerms();
            }
            terms();
            for (int i = 0; i < 6; i++) {
                rows();
            }
            values();
            passages();
        }
    }

    // ---- texts

    private String drawSounds(int most, int letters) {
        StringBuilder row = new StringBuilder();
        int many = 1 + draw(most);
        for (int i = 0; i < many; i++) {
            row.append((char) ('a' + draw(letters)));
        }
        return row.toString();
    }

    private String blanks() {
        return draw(3) == 0 ? " " : draw(3) == 0 ? "\n" : "";
    }

    private String drawRules() {
        StringBuilder text = new StringBuilder();
        if (draw(2) == 0) {
            text.append("gap ").append(draw(10)).append(";");
        }
        if (draw(2) == 0) {
            text.append("square ").append(8 + draw(40)).append(";");
        }
        if (draw(2) == 0) {
            text.append("least ").append(1 + draw(100)).append(";");
        }
        if (draw(4) > 0) {
            text.append("echo ").append(draw(4)).append(";");
        }
        return text.toString();
    }

    private String drawSign(String name, int greatest, int letters) {
        StringBuilder text = new StringBuilder("sign ");
        text.append(name).append(' ').append(1 + draw(greatest)).append(' ').append(1 + draw(greatest));
        int value = draw(10);
        if (value < 6) {
            text.append(" sounds ").append(drawSounds(3, letters));
        } else if (value < 8) {
            text.append(" means ").append("term".charAt(draw(4)));
        } else if (value < 9) {
            text.append(" kind ").append("kl".charAt(draw(2)));
        }
        return text.append(blanks()).append(';').append(blanks()).toString();
    }

    private String drawList() {
        int signs = large ? 15 + draw(26) : 3 + draw(9);
        int letters = large ? 3 + draw(5) : 1 + draw(3);
        int greatest = draw(3) == 0 ? 60 : 5 + draw(20);
        StringBuilder text = new StringBuilder();
        String rules = drawRules();
        for (int s = 0; s < signs; s++) {
            String name = s < 26 ? "" + (char) ('a' + s) : "z" + (char) ('a' + s - 26);
            String sign = drawSign(name, greatest, letters);
            // a text that is spoilt may be longer by two bits of thirteen bytes
            if (text.length() + sign.length() + rules.length() <= 770) {
                text.append(sign);
            }
        }
        return draw(2) == 0 ? text + rules : rules + text;
    }

    private String spoil(String text) {
        String[] bits = {";", ":", "*", "&", "-", "(", ")", " ", "\n", "a", "q", "0", "9", "99999", "abcdefghijklm",
            "A", "\u00e9", "sign", "gap 1;", "echo 2;", "sounds", "((((", "-a", "*a"};
        StringBuilder spoilt = new StringBuilder(text);
        int times = 1 + draw(2);
        for (int i = 0; i < times; i++) {
            int at = draw(spoilt.length() + 1);
            int how = draw(3);
            if (how < 2 && at < spoilt.length()) {
                spoilt.deleteCharAt(at);
            }
            if (how > 0) {
                spoilt.insert(at, bits[draw(bits.length)]);
            }
        }
        return spoilt.toString();
    }

    private void tellList(String text) {
        Model.Fault fault = null;
        try {
            m.list(text);
        } catch (Model.Fault f) {
            fault = f;
        }
        H.due("list " + text, Harness.list(x, text), fault == null ? m.clauses : -1);
        dueFault(text, fault);
    }

    private void dueFault(String text, Model.Fault fault) {
        H.due("fault(0) of " + text, x.fault(0), fault == null ? 0 : fault.kind);
        H.due("fault(1) of " + text, x.fault(1), fault == null ? -1 : fault.place);
    }

    private void listing() {
        String text = drawList();
        for (int i = 0; i < 8; i++) {
            tellList(spoil(text));
        }
        tellList(text);
        H.due("rule(0)", x.rule(0), m.signs.size());
        H.due("rule(1)", x.rule(1), m.rules.get("gap"));
        H.due("rule(2)", x.rule(2), m.rules.get("square"));
        H.due("rule(3)", x.rule(3), m.rules.get("least"));
        H.due("rule(4)", x.rule(4), m.rules.get("echo"));
        H.due("BLOCKS", x.count(2), 0);
        H.due("WRITTEN", x.count(4), 0);
        H.due("VALUES", x.count(6), 0);
        for (int s = 0; s < m.signs.size(); s++) {
            Model.Sign sign = m.signs.get(s);
            H.due("width", x.sign(s, 0), sign.width());
            H.due("height", x.sign(s, 1), sign.height());
            H.due("value", x.sign(s, 2), List.of("", "sounds", "means", "kind").indexOf(sign.kind()));
            dueRow("sign", sign.kind().equals("sounds") ? sign.value() : "", s);
            H.due("named", Harness.named(x, sign.name()), s);
        }
        blocks = new ArrayList<>();
        written = new ArrayList<>();
    }

    private void dueRow(String call, String row, int s) {
        H.due(call + " SOUNDS", x.sign(s, 3), row.length());
        for (int i = 0; i <= row.length(); i++) {
            H.due(call + " SOUND", x.sign(s, 10 + i), i < row.length() ? row.charAt(i) - 'a' : -9);
        }
    }

    // ---- blocks

    private String drawName() {
        return m.signs.get(draw(m.signs.size())).name();
    }

    private String drawBlock(int depth) {
        StringBuilder text = new StringBuilder();
        int items = 1 + draw(3);
        for (int i = 0; i < items; i++) {
            if (i > 0) {
                text.append(draw(2) == 0 ? '*' : ':');
            }
            text.append(blanks());
            if (depth < 4 && draw(4) == 0) {
                text.append('(').append(drawBlock(depth + 1)).append(')');
            } else {
                text.append(drawName());
                if (draw(5) == 0) {
                    text.append('&').append(blanks()).append(drawName());
                }
            }
        }
        return text.toString();
    }

    private String drawBlocks() {
        StringBuilder text = new StringBuilder(drawBlock(0));
        int more = draw(5) == 0 ? draw(14) : draw(3);
        for (int i = 0; i < more; i++) {
            text.append('-').append(draw(5) > 0 ? drawName() : drawBlock(0));
        }
        return text.toString();
    }

    private void tellBlocks(String text) {
        Model.Fault fault = null;
        try {
            blocks = m.blocks(text);
        } catch (Model.Fault f) {
            fault = f;
        }
        H.due("blocks " + text, Harness.blocks(x, text), fault == null ? blocks.size() : -1);
        dueFault(text, fault);
        H.due("BLOCKS", x.count(2), blocks.size());
    }

    private void drafts() {
        for (int i = 0; i < 4; i++) {
            String text = drawBlocks();
            tellBlocks(spoil(text));
            tellBlocks(text);
            boolean left = draw(2) == 0;
            x.face(left);
            dueBlocks();
            dueBoxes(left);
        }
    }

    private void dueBlocks() {
        List<Model.Box> boxes = m.boxes(blocks, false);
        for (int b = 0; b < blocks.size(); b++) {
            Model.Part p = blocks.get(b);
            int block = b;
            int[] want = {m.width(p), m.height(p), (int) boxes.stream().filter(q -> q.block() == block).count(),
                m.percent(p), m.legible(p) ? 1 : 0, m.shrink(p, m.width(p)), m.shrink(p, m.height(p)), -9};
            for (int what = 0; what < want.length; what++) {
                H.due("block(" + b + ", " + what + ")", x.block(b, what), want[what]);
            }
        }
        H.due("block behind", x.block(blocks.size(), 0), -9);
    }

    private void dueBoxes(boolean left) {
        List<Model.Box> boxes = m.boxes(blocks, left);
        H.due("count(3)", x.count(3), boxes.size());
        for (int k = 0; k < boxes.size(); k++) {
            Model.Box b = boxes.get(k);
            int[] want = {b.sign(), b.block(), b.left(), b.upper(), b.width(), b.height(), -9};
            for (int what = 0; what < want.length; what++) {
                H.due("box(" + k + ", " + what + ")", x.box(k, what), want[what]);
            }
        }
        H.due("box behind", x.box(boxes.size(), 0), -9);
    }

    // ---- terms

    private void drawTerms() {
        int letters = large ? 3 + draw(5) : 1 + draw(3);
        String names = "termxyzuvabcdfghijklnopqsw";
        int many = 1 + draw(large ? names.length() : 9);
        for (int t = 0; t < many; t++) {
            String kind = draw(3) == 0 ? "klo".substring(draw(3)).substring(0, 1) : null;
            Model.Term term = new Model.Term(names.substring(t, t + 1), drawSounds(draw(3) == 0 ? 8 : 4, letters), kind);
            m.terms.add(term);
            H.due("term", Harness.term(x, term.name() + " " + term.row() + (kind == null ? "" : " " + kind)), t);
            H.due("term again", Harness.term(x, term.name() + " a"), -4);
        }
    }

    private void terms() {
        spellings = m.allSpellings(m.signs);
        for (int t = 0; t < m.terms.size(); t++) {
            Model.Term term = m.terms.get(t);
            H.due("about", x.about(t, 0), term.row().length());
            H.due("about", x.about(t, 1), term.kind() == null ? 0 : 1);
            for (int i = 0; i <= term.row().length(); i++) {
                H.due("about", x.about(t, 10 + i), i < term.row().length() ? term.row().charAt(i) - 'a' : -9);
            }
            H.due("spellings " + term + m.signs, x.spellings(t), spellings.get(t).size());
            List<Integer> best = spellings.get(t).stream().min(m.better()).orElse(null);
            H.due("best " + term + m.signs, x.best(t), best == null ? -1 : m.paint(best));
            int length = best == null ? 0 : best.size();
            for (int i = 0; i <= length; i++) {
                H.due("bestSign " + best, x.bestSign(t, i), i < length ? best.get(i) : -1);
            }
        }
    }

    // ---- rows

    /** Mostly SPELLINGS one behind the other, so that there are WAYS; now and then spoilt. */
    private List<Integer> drawRow(int most) {
        List<Integer> row = new ArrayList<>();
        for (int i = 0; i < 8; i++) {
            TreeSet<List<Integer>> of = spellings.get(draw(spellings.size()));
            if (!of.isEmpty() && draw(6) > 0) {
                List<List<Integer>> all = new ArrayList<>(of);
                row.addAll(all.get(draw(all.size())));
            } else if (draw(4) == 0) {
                row.add(draw(m.signs.size()));
            }
            if (draw(4) == 0) {
                break;
            }
        }
        if (row.isEmpty()) {
            row.add(draw(m.signs.size()));
        }
        return row.size() > most ? new ArrayList<>(row.subList(0, most)) : row;
    }

    private String namesOf(List<Integer> row) {
        StringBuilder text = new StringBuilder();
        for (int s : row) {
            text.append(m.signs.get(s).name()).append(' ').append(blanks());
        }
        return text.toString();
    }

    private void rows() {
        List<Integer> row = drawRow(26);
        int many = Harness.write(x, namesOf(row));
        H.due("write", many, row.size() > 24 ? -1 : row.size());
        if (row.size() <= 24) {
            written = row;
            H.due("readTerm of another row", x.readTerm(0, 0), -1);
            H.due("grouped of another row", x.grouped(0, 0), -1);
        }
        for (int i = 0; i <= written.size(); i++) {
            H.due("written", x.written(i), i < written.size() ? written.get(i) : -1);
        }
        if (written.isEmpty()) {
            return;
        }
        BigInteger ways = m.ways(written, spellings);
        H.due("ways " + written, x.ways(), told(ways));
        for (int t = 0; t < m.terms.size(); t++) {
            H.due("spells " + t, x.spells(t), spellings.get(t).contains(written) ? 1 : 0);
        }
        if (ways.compareTo(BigInteger.valueOf(20000)) < 0) {
            dueRead();
        }
        if (written.size() <= 9) {
            dueGroup();
        }
    }

    private static int told(BigInteger ways) {
        return ways.compareTo(BigInteger.valueOf(1000000000)) > 0 ? -3 : ways.intValue();
    }

    private void dueRead() {
        List<List<Model.Piece>> ways = new ArrayList<>();
        m.listWays(written, 0, spellings, new ArrayList<>(), ways);
        List<Model.Piece> first = m.firstWay(ways);
        H.due("read", x.read(), first == null ? -1 : first.size());
        int many = first == null ? 0 : first.size();
        for (int i = 0; i <= many; i++) {
            H.due("readTerm(" + i + ", 0)", x.readTerm(i, 0), i < many ? first.get(i).term() : -1);
            H.due("readTerm(" + i + ", 1)", x.readTerm(i, 1), i < many ? first.get(i).length() : -1);
        }
    }

    private void dueGroup() {
        List<Model.Group> groups = m.group(written);
        int many = groups == null ? 0 : groups.size();
        H.due("group", x.group(), groups == null ? -1 : many);
        for (int i = 0; i <= many; i++) {
            H.due("grouped(" + i + ", 0)", x.grouped(i, 0), i < many ? groups.get(i).shape() : -1);
            H.due("grouped(" + i + ", 1)", x.grouped(i, 1), i < many ? groups.get(i).percent() : -1);
        }
    }

    // ---- values

    private void values() {
        int day = 0;
        int many = draw(12);
        for (int i = 0; i < many; i++) {
            day += draw(3);
            int s = draw(m.signs.size());
            int from = draw(6);
            String row = drawSounds(3, 3);
            m.told.add(new Model.Told(s, from, day, row));
            H.due("value", Harness.value(x, row, s, from, day), i + 1);
        }
        for (int i = 0; i < 20; i++) {
            int s = draw(m.signs.size());
            int on = draw(7);
            int known = draw(day + 2);
            String row = m.valueOn(s, on, known);
            if (row == null) {
                row = m.signs.get(s).kind().equals("sounds") ? m.signs.get(s).value() : "";
            }
            H.due("valueOn", x.valueOn(s, on, known, 0), row.length());
            for (int k = 0; k <= row.length(); k++) {
                H.due("valueOn", x.valueOn(s, on, known, 10 + k), k < row.length() ? row.charAt(k) - 'a' : -1);
            }
        }
        if (!written.isEmpty()) {
            for (int i = 0; i < 4; i++) {
                int on = draw(7);
                int known = draw(day + 2);
                BigInteger ways = m.ways(written, m.allSpellings(m.signsOn(on, known)));
                H.due("waysOn", x.waysOn(on, known), told(ways));
            }
            H.due("ways without days", x.ways(), told(m.ways(written, spellings)));
        }
    }

    // ---- passages

    private void passages() {
        for (int round = 0; round < 2; round++) {
            x.clear();
            List<Integer> passage = new ArrayList<>();
            int many = 1 + draw(4);
            for (int i = 0; i < many; i++) {
                passage.add(draw(m.terms.size()));
                H.due("say", x.say(passage.get(i)), i + 1);
            }
            dueFillings(passage);
            dueJudge(passage);
        }
    }

    private void dueFillings(List<Integer> passage) {
        List<TreeMap<Integer, List<Integer>>> choices = new ArrayList<>();
        for (int t : passage) {
            if (spellings.get(t).size() > 500) {
                H.due("fills", x.fills(), -3);
                H.due("fill", x.fill(1 + draw(144)), -3);
                return;
            }
            choices.add(m.byBlocks(spellings.get(t)));
        }
        TreeMap<Integer, Model.Filling> fillings = m.fillings(choices);
        H.due("fills", x.fills(), fillings.size());
        for (int n = 1; n <= 40; n++) {
            Model.Filling f = fillings.get(n);
            H.due("fill " + n, x.fill(n), f == null ? -1 : f.paint());
            if (f != null) {
                dueFilled(f);
            }
        }
    }

    private void dueFilled(Model.Filling f) {
        for (int i = 0; i < f.rows().size(); i++) {
            List<Integer> row = f.rows().get(i);
            H.due("filled BLOCKS", x.filled(i, 0), f.blocks().get(i));
            H.due("filled SIGNS", x.filled(i, 1), row.size());
            for (int k = 0; k <= row.size(); k++) {
                H.due("filled SIGN", x.filled(i, 10 + k), k < row.size() ? row.get(k) : -1);
            }
        }
        H.due("filled behind", x.filled(f.rows().size(), 0), -1);
    }

    private void dueJudge(List<Integer> passage) {
        for (int i = 0; i < 4; i++) {
            List<Integer> row = new ArrayList<>();
            for (int t : passage) {
                List<List<Integer>> all = new ArrayList<>(spellings.get(t));
                if (!all.isEmpty() && draw(8) > 0) {
                    row.addAll(all.get(draw(all.size())));
                }
            }
            if (row.isEmpty() || draw(3) == 0) {
                row.add(draw(m.signs.size()));
            }
            StringBuilder text = new StringBuilder();
            for (int k = 0; k < row.size(); k++) {
                text.append(k == 0 ? "" : "-*:&".substring(draw(4)).substring(0, 1))
                        .append(m.signs.get(row.get(k)).name());
            }
            tellBlocks(text.toString());
            H.due("judge " + text, x.judge(), m.judge(blocks, passage, spellings));
        }
    }
}
