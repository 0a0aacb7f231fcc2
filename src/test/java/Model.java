import java.math.BigInteger;
import java.util.ArrayList;
import java.util.Comparator;
import java.util.HashMap;
import java.util.List;
import java.util.Map;
import java.util.TreeMap;
import java.util.TreeSet;

/**
 * The document said over in the slowest and plainest way: all SPELLINGS listed, all WAYS listed,
 * all groupings listed, all fillings listed. It shares no idea with the class but the document.
 */
final class Model {
    record Sign(String name, int width, int height, String kind, String value) { }

    record Term(String name, String row, String kind) { }

    record Told(int sign, int from, int day, String row) { }

    record Box(int sign, int block, int left, int upper, int width, int height) { }

    record Token(String text, int place) { }

    record Piece(int term, int length) { }

    record Group(int shape, int percent) { }

    static final class Fault extends RuntimeException {
        private static final long serialVersionUID = 1;
        final int kind;
        final int place;

        Fault(int kind, int place) {
            this.kind = kind;
            this.place = place;
        }
    }

    static final Comparator<List<Integer>> ROWS = (a, b) -> {
        for (int i = 0; i < Math.min(a.size(), b.size()); i++) {
            if (!a.get(i).equals(b.get(i))) {
                return a.get(i) - b.get(i);
            }
        }
        return a.size() - b.size();
    };

    List<Sign> signs = new ArrayList<>();
    Map<String, Integer> rules = rules();
    int clauses;
    final List<Term> terms = new ArrayList<>();
    List<Told> told = new ArrayList<>();

    private static Map<String, Integer> rules() {
        Map<String, Integer> rules = new HashMap<>();
        rules.put("gap", 1);
        rules.put("square", 24);
        rules.put("least", 50);
        rules.put("echo", 1);
        return rules;
    }

    // ---- texts

    /** TOKENS; one that is none has an empty text, and the end has null. */
    static List<Token> tokens(String text) {
        List<Token> all = new ArrayList<>();
        int at = 0;
        while (at < text.length()) {
            char c = text.charAt(at);
            if (c == ' ' || c == '\n') {
                at++;
                continue;
            }
            int end = at + 1;
            boolean good = ";:*&-()".indexOf(c) >= 0;
            if (c >= 'a' && c <= 'z') {
                while (end < text.length() && text.charAt(end) >= 'a' && text.charAt(end) <= 'z') {
                    end++;
                }
                good = end - at <= 12;
            } else if (c >= '0' && c <= '9') {
                while (end < text.length() && text.charAt(end) >= '0' && text.charAt(end) <= '9') {
                    end++;
                }
                good = end - at <= 4;
            }
            all.add(new Token(good ? text.substring(at, end) : "", at));
            at = end;
        }
        all.add(new Token(null, text.length()));
        return all;
    }

    private List<Token> text;
    private int next;

    private String peek() {
        return text.get(next).text;
    }

    private boolean peekIs(String wanted) {
        return wanted.equals(peek());
    }

    private boolean peekWord() {
        return peek() != null && peek().matches("[a-z]+");
    }

    private Fault fault(int kind) {
        return new Fault(kind, text.get(next).place);
    }

    private String word() {
        if (!peekWord()) {
            throw fault(1);
        }
        return text.get(next++).text;
    }

    private int number(int low, int high) {
        if (peek() == null || !peek().matches("[0-9]+")) {
            throw fault(1);
        }
        int n = Integer.parseInt(peek());
        if (n < low || n > high) {
            throw fault(2);
        }
        next++;
        return n;
    }

    void list(String told) {
        text = tokens(told);
        next = 0;
        List<Sign> newSigns = new ArrayList<>();
        Map<String, Integer> newRules = rules();
        List<String> seen = new ArrayList<>();
        int many = 0;
        while (peek() != null) {
            if (peekIs("sign")) {
                if (newSigns.size() == 40) {
                    throw fault(4);
                }
                next++;
                newSigns.add(signClause(newSigns));
            } else if (newRules.containsKey(peek())) {
                String rule = peek();
                if (seen.contains(rule)) {
                    throw fault(3);
                }
                seen.add(rule);
                next++;
                int low = rule.equals("square") ? 8 : rule.equals("least") ? 1 : 0;
                int high = rule.equals("gap") ? 9 : rule.equals("square") ? 99 : rule.equals("least") ? 100 : 3;
                newRules.put(rule, number(low, high));
            } else {
                throw fault(1);
            }
            if (!peekIs(";")) {
                throw fault(1);
            }
            next++;
            many++;
        }
        signs = newSigns;
        rules = newRules;
        clauses = many;
        this.told = new ArrayList<>();
    }

    private Sign signClause(List<Sign> before) {
        int place = next;
        String name = word();
        for (Sign s : before) {
            if (s.name.equals(name)) {
                next = place;
                throw fault(3);
            }
        }
        int width = number(1, 60);
        int height = number(1, 60);
        if (peekIs("sounds") || peekIs("means") || peekIs("kind")) {
            String kind = text.get(next++).text;
            if (kind.equals("sounds")) {
                if (peek() == null || !peek().matches("[a-p]+")) {
                    throw fault(1);
                }
                if (peek().length() > 3) {
                    throw fault(2);
                }
            }
            return new Sign(name, width, height, kind, word());
        }
        return new Sign(name, width, height, "", "");
    }

    int named(String name) {
        for (int s = 0; s < signs.size(); s++) {
            if (signs.get(s).name.equals(name)) {
                return s;
            }
        }
        return -1;
    }

    // ---- blocks

    /** A part of a BLOCK: a SIGN (with one behind & perhaps), or parts beside or over. */
    static final class Part {
        int sign = -1;
        int inner = -1;
        boolean beside;
        final List<Part> parts = new ArrayList<>();
    }

    private int open;
    private int signCount;

    List<Part> blocks(String told) {
        text = tokens(told);
        next = 0;
        open = 0;
        signCount = 0;
        List<Part> all = new ArrayList<>();
        do {
            if (!all.isEmpty()) {
                next++;
            }
            if (all.size() == 12 && (peekWord() || peekIs("("))) {
                throw fault(4);
            }
            all.add(beside());
        } while (peekIs("-"));
        if (peek() != null) {
            throw fault(1);
        }
        return all;
    }

    private Part beside() {
        Part part = new Part();
        part.beside = true;
        part.parts.add(over());
        while (peekIs("*")) {
            next++;
            part.parts.add(over());
        }
        return part;
    }

    private Part over() {
        Part part = new Part();
        part.parts.add(item());
        while (peekIs(":")) {
            next++;
            part.parts.add(item());
        }
        return part;
    }

    private Part item() {
        if (peekIs("(")) {
            if (open == 4) {
                throw fault(4);
            }
            open++;
            next++;
            Part inside = beside();
            if (!peekIs(")")) {
                throw fault(1);
            }
            next++;
            open--;
            return inside;
        }
        Part part = new Part();
        part.sign = signName();
        if (peekIs("&")) {
            next++;
            part.inner = signName();
        }
        return part;
    }

    private int signName() {
        if (!peekWord()) {
            throw fault(1);
        }
        if (signCount == 24) {
            throw fault(4);
        }
        int s = named(peek());
        if (s < 0) {
            throw fault(5);
        }
        signCount++;
        next++;
        return s;
    }

    int width(Part p) {
        if (p.sign >= 0) {
            return signs.get(p.sign).width;
        }
        int sum = -rules.get("gap");
        int most = 0;
        for (Part q : p.parts) {
            sum += rules.get("gap") + width(q);
            most = Math.max(most, width(q));
        }
        return p.beside ? sum : most;
    }

    int height(Part p) {
        if (p.sign >= 0) {
            return signs.get(p.sign).height;
        }
        int sum = -rules.get("gap");
        int most = 0;
        for (Part q : p.parts) {
            sum += rules.get("gap") + height(q);
            most = Math.max(most, height(q));
        }
        return p.beside ? most : sum;
    }

    /** BOXES of NATURAL size, in the order of the text. */
    void places(Part p, int block, int x, int y, List<Box> to) {
        if (p.sign >= 0) {
            Sign s = signs.get(p.sign);
            to.add(new Box(p.sign, block, x, y, s.width, s.height));
            if (p.inner >= 0) {
                Sign in = signs.get(p.inner);
                int w = Math.max(1, in.width / 2);
                int h = Math.max(1, in.height / 2);
                to.add(new Box(p.inner, block, x + s.width - w, y, w, h));
            }
            return;
        }
        int at = 0;
        for (Part q : p.parts) {
            if (p.beside) {
                places(q, block, x + at, y + (height(p) - height(q)) / 2, to);
                at += width(q) + rules.get("gap");
            } else {
                places(q, block, x + (width(p) - width(q)) / 2, y + at, to);
                at += height(q) + rules.get("gap");
            }
        }
    }

    int shrink(Part block, int c) {
        int g = Math.max(rules.get("square"), Math.max(width(block), height(block)));
        return c * rules.get("square") / g;
    }

    int percent(Part block) {
        return shrink(block, 100);
    }

    boolean legible(Part block) {
        return percent(block) >= rules.get("least");
    }

    List<Box> boxes(List<Part> blocks, boolean left) {
        List<Box> all = new ArrayList<>();
        int square = rules.get("square");
        for (int b = 0; b < blocks.size(); b++) {
            Part p = blocks.get(b);
            List<Box> natural = new ArrayList<>();
            places(p, b, 0, 0, natural);
            int right = (square - shrink(p, width(p))) / 2;
            int lower = (square - shrink(p, height(p))) / 2;
            for (Box n : natural) {
                int x = shrink(p, n.left) + right;
                int w = shrink(p, n.width);
                all.add(new Box(n.sign, b, left ? square - (x + w) : x, shrink(p, n.upper) + lower, w,
                        shrink(p, n.height)));
            }
        }
        return all;
    }

    // ---- spellings

    String kindOn(int s, int day, int known) {
        return valueOn(s, day, known) == null ? signs.get(s).kind : "sounds";
    }

    /** The ROW that was told for a day, or null. */
    String valueOn(int s, int day, int known) {
        Told best = null;
        for (Told t : told) {
            if (t.sign == s && t.day <= known && t.from <= day && (best == null || t.from >= best.from)) {
                best = t;
            }
        }
        return best == null ? null : best.row;
    }

    List<Sign> signsOn(int day, int known) {
        List<Sign> all = new ArrayList<>();
        for (int s = 0; s < signs.size(); s++) {
            Sign old = signs.get(s);
            String row = valueOn(s, day, known);
            all.add(row == null ? old : new Sign(old.name, old.width, old.height, "sounds", row));
        }
        return all;
    }

    static final class TooMany extends RuntimeException {
        private static final long serialVersionUID = 1;
    }

    TreeSet<List<Integer>> spellings(Term t, List<Sign> by) {
        TreeSet<List<Integer>> bodies = new TreeSet<>(ROWS);
        if (t.kind != null && by.stream().noneMatch(s -> s.kind.equals("kind") && s.value.equals(t.kind))) {
            return bodies;
        }
        for (int i = 0; i < by.size(); i++) {
            if (by.get(i).kind.equals("means") && by.get(i).value.equals(t.name)) {
                bodies.add(List.of(i));
                for (int s = 0; s < by.size(); s++) {
                    if (by.get(s).kind.equals("sounds") && t.row.endsWith(by.get(s).value)) {
                        bodies.add(List.of(i, s));
                    }
                }
            }
        }
        covers(t.row, 0, new ArrayList<>(), by, bodies);
        if (t.kind == null) {
            return bodies;
        }
        TreeSet<List<Integer>> all = new TreeSet<>(ROWS);
        for (List<Integer> body : bodies) {
            for (int s = 0; s < by.size(); s++) {
                if (by.get(s).kind.equals("kind") && by.get(s).value.equals(t.kind)) {
                    List<Integer> row = new ArrayList<>(body);
                    row.add(s);
                    all.add(row);
                }
            }
        }
        return all;
    }

    private void covers(String rest, int echoes, List<Integer> row, List<Sign> by, TreeSet<List<Integer>> to) {
        if (rest.isEmpty()) {
            to.add(new ArrayList<>(row));
            if (to.size() > 3000) {
                throw new TooMany();
            }
            return;
        }
        for (int s = 0; s < by.size(); s++) {
            Sign sign = by.get(s);
            if (!sign.kind.equals("sounds") || !rest.startsWith(sign.value)) {
                continue;
            }
            row.add(s);
            covers(rest.substring(sign.value.length()), echoes, row, by, to);
            if (sign.value.length() > 1 && echoes < rules.get("echo")) {
                String last = sign.value.substring(sign.value.length() - 1);
                for (int e = 0; e < by.size(); e++) {
                    if (by.get(e).kind.equals("sounds") && by.get(e).value.equals(last)) {
                        row.add(e);
                        covers(rest.substring(sign.value.length()), echoes + 1, row, by, to);
                        row.remove(row.size() - 1);
                    }
                }
            }
            row.remove(row.size() - 1);
        }
    }

    int paint(List<Integer> row) {
        int sum = 0;
        for (int s : row) {
            sum += signs.get(s).width * signs.get(s).height;
        }
        return sum;
    }

    Comparator<List<Integer>> better() {
        return Comparator.<List<Integer>>comparingInt(this::paint).thenComparingInt(List::size).thenComparing(ROWS);
    }

    // ---- reading

    List<TreeSet<List<Integer>>> allSpellings(List<Sign> by) {
        List<TreeSet<List<Integer>>> all = new ArrayList<>();
        for (Term t : terms) {
            all.add(spellings(t, by));
        }
        return all;
    }

    BigInteger ways(List<Integer> row, List<TreeSet<List<Integer>>> all) {
        BigInteger[] from = new BigInteger[row.size() + 1];
        from[row.size()] = BigInteger.ONE;
        for (int at = row.size() - 1; at >= 0; at--) {
            from[at] = BigInteger.ZERO;
            for (TreeSet<List<Integer>> spellings : all) {
                for (int end = at + 1; end <= row.size(); end++) {
                    if (spellings.contains(row.subList(at, end))) {
                        from[at] = from[at].add(from[end]);
                    }
                }
            }
        }
        return from[0];
    }

    /** All WAYS one by one. */
    void listWays(List<Integer> row, int at, List<TreeSet<List<Integer>>> all, List<Piece> way, List<List<Piece>> to) {
        if (at == row.size()) {
            to.add(new ArrayList<>(way));
            return;
        }
        // a place from which no WAY goes on would be tried again and again
        if (ways(row.subList(at, row.size()), all).signum() == 0) {
            return;
        }
        for (int t = 0; t < all.size(); t++) {
            for (int end = at + 1; end <= row.size(); end++) {
                if (all.get(t).contains(row.subList(at, end))) {
                    way.add(new Piece(t, end - at));
                    listWays(row, end, all, way, to);
                    way.remove(way.size() - 1);
                }
            }
        }
    }

    List<Piece> firstWay(List<List<Piece>> ways) {
        List<Piece> best = null;
        for (List<Piece> way : ways) {
            if (best == null || compareWays(way, best) < 0) {
                best = way;
            }
        }
        return best;
    }

    private static int compareWays(List<Piece> a, List<Piece> b) {
        if (a.size() != b.size()) {
            return a.size() - b.size();
        }
        int byTerms = ROWS.compare(a.stream().map(Piece::term).toList(), b.stream().map(Piece::term).toList());
        return byTerms != 0 ? byTerms
                : ROWS.compare(a.stream().map(Piece::length).toList(), b.stream().map(Piece::length).toList());
    }

    // ---- grouping

    private static final String[] SHAPES = {"a", "a*b", "a:b", "a*b*c", "a:b:c", "a*(b:c)", "(a:b)*c", "a:(b*c)",
        "(a*b):c", "(a:b)*(c:d)", "(a*b):(c*d)"};
    private static final int[] LENGTHS = {1, 2, 2, 3, 3, 3, 3, 3, 3, 4, 4};

    /** PERCENT of SIGNS in a SHAPE, by telling the SHAPE as a BLOCK to a model of these SIGNS alone. */
    private int percentIn(int shape, List<Integer> part) {
        Model m = new Model();
        m.rules = rules;
        for (int i = 0; i < part.size(); i++) {
            Sign s = signs.get(part.get(i));
            m.signs.add(new Sign("" + (char) ('a' + i), s.width, s.height, "", ""));
        }
        return m.percent(m.blocks(SHAPES[shape]).get(0));
    }

    private final Map<List<Integer>, List<Group>> shapesOf = new TreeMap<>(ROWS);
    private List<Sign> shapesBy;

    /** The LEGIBLE SHAPES of just these SIGNS. */
    private List<Group> shapesOf(List<Integer> part) {
        if (shapesBy != signs) {
            shapesOf.clear();
            shapesBy = signs;
        }
        List<Group> known = shapesOf.get(part);
        if (known == null) {
            known = new ArrayList<>();
            for (int shape = 0; shape < SHAPES.length; shape++) {
                if (LENGTHS[shape] == part.size() && percentIn(shape, part) >= rules.get("least")) {
                    known.add(new Group(shape, percentIn(shape, part)));
                }
            }
            shapesOf.put(new ArrayList<>(part), known);
        }
        return known;
    }

    private List<Group> bestGroups;

    /** The best of all groupings, or null. */
    List<Group> group(List<Integer> row) {
        bestGroups = null;
        groupOn(row, 0, new ArrayList<>());
        return bestGroups;
    }

    private void groupOn(List<Integer> row, int at, List<Group> groups) {
        if (at == row.size()) {
            if (bestGroups == null || compareGroups(groups, bestGroups) < 0) {
                bestGroups = new ArrayList<>(groups);
            }
            return;
        }
        for (int many = 1; many <= 4 && at + many <= row.size(); many++) {
            for (Group g : shapesOf(row.subList(at, at + many))) {
                groups.add(g);
                groupOn(row, at + many, groups);
                groups.remove(groups.size() - 1);
            }
        }
    }

    private static int compareGroups(List<Group> a, List<Group> b) {
        if (a.size() != b.size()) {
            return a.size() - b.size();
        }
        int sums = b.stream().mapToInt(Group::percent).sum() - a.stream().mapToInt(Group::percent).sum();
        return sums != 0 ? sums
                : ROWS.compare(a.stream().map(Group::shape).toList(), b.stream().map(Group::shape).toList());
    }

    // ---- filling

    record Filling(int paint, List<Integer> blocks, List<List<Integer>> rows) { }

    /** Of each number of BLOCKS the best SPELLING of a TERM. */
    TreeMap<Integer, List<Integer>> byBlocks(TreeSet<List<Integer>> spellings) {
        TreeMap<Integer, List<Integer>> best = new TreeMap<>();
        for (List<Integer> row : spellings) {
            List<Group> groups = group(row);
            if (groups != null) {
                List<Integer> old = best.get(groups.size());
                if (old == null || better().compare(row, old) < 0) {
                    best.put(groups.size(), row);
                }
            }
        }
        return best;
    }

    /** The best filling for each n there is one for. */
    TreeMap<Integer, Filling> fillings(List<TreeMap<Integer, List<Integer>>> passage) {
        TreeMap<Integer, Filling> best = new TreeMap<>();
        fillOn(passage, 0, new ArrayList<>(), new ArrayList<>(), best);
        return best;
    }

    private void fillOn(List<TreeMap<Integer, List<Integer>>> passage, int i, List<Integer> blocks,
            List<List<Integer>> rows, TreeMap<Integer, Filling> best) {
        if (i == passage.size()) {
            int n = blocks.stream().mapToInt(Integer::intValue).sum();
            int paint = rows.stream().mapToInt(this::paint).sum();
            Filling old = best.get(n);
            if (old == null || paint < old.paint || paint == old.paint && ROWS.compare(blocks, old.blocks) < 0) {
                best.put(n, new Filling(paint, new ArrayList<>(blocks), new ArrayList<>(rows)));
            }
            return;
        }
        for (Map.Entry<Integer, List<Integer>> choice : passage.get(i).entrySet()) {
            blocks.add(choice.getKey());
            rows.add(choice.getValue());
            fillOn(passage, i + 1, blocks, rows, best);
            blocks.remove(i);
            rows.remove(i);
        }
    }

    // ---- judging

    int judge(List<Part> blocks, List<Integer> passage, List<TreeSet<List<Integer>>> all) {
        for (int b = 0; b < blocks.size(); b++) {
            if (!legible(blocks.get(b))) {
                return 1000 + b;
            }
        }
        List<Integer> row = boxes(blocks, false).stream().map(Box::sign).toList();
        mostTerms = 0;
        whole = false;
        judgeOn(row, 0, passage, 0, all);
        return whole ? 0 : mostTerms == passage.size() ? 3000 : 2000 + mostTerms;
    }

    private int mostTerms;
    private boolean whole;

    private void judgeOn(List<Integer> row, int at, List<Integer> passage, int t, List<TreeSet<List<Integer>>> all) {
        mostTerms = Math.max(mostTerms, t);
        if (t == passage.size()) {
            whole |= at == row.size();
            return;
        }
        for (int end = at + 1; end <= row.size(); end++) {
            if (all.get(passage.get(t)).contains(row.subList(at, end))) {
                judgeOn(row, end, passage, t + 1, all);
            }
        }
    }
}
