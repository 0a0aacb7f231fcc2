import java.util.Random;

/** Any calls with any arguments in any state: none throws, and the same calls answer the same. */
public final class FuzzTest {
    private static final Harness H = new Harness();
    private static final String[] BITS = {"sign ", "a ", "b ", "ab ", "i ", "k ", "5 ", "9 ", "60 ", "sounds ", "means ",
        "kind ", "gap ", "square ", "least ", "echo ", ";", ";", ":", "*", "&", "-", "(", ")", " ", "\n", "aab ", "x "};

    public static void main(String[] args) {
        int seeds = args.length > 0 ? Integer.parseInt(args[0]) : 300;
        H.watch(60 + seeds);
        for (int seed = 0; seed < seeds; seed++) {
            H.part("seed " + seed);
            int once;
            try {
                once = run(seed);
            } catch (RuntimeException | StackOverflowError e) {
                e.printStackTrace();
                H.due("thrown", 1, 0);
                continue;
            }
            H.due("again", run(seed), once);
        }
        H.finish();
    }

    private static int number(Random random) {
        int how = random.nextInt(20);
        if (how == 0) {
            return random.nextInt();
        }
        if (how == 1) {
            return Integer.MAX_VALUE - random.nextInt(20);
        }
        if (how == 2) {
            return Integer.MIN_VALUE + random.nextInt(20);
        }
        if (how == 3) {
            return random.nextInt(1100) - 20;
        }
        return random.nextInt(16) - 1;
    }

    private static void text(ScribeBlocks x, Random random) {
        StringBuilder text = new StringBuilder();
        int how = random.nextInt(12);
        int many = random.nextInt(14);
        for (int i = 0; i < many; i++) {
            if (how < 4) {
                text.append("sign ").append(BITS[1 + random.nextInt(5)].trim()).append(i < 4 ? "" : "c").append(' ')
                        .append(1 + random.nextInt(30)).append(" 5 ")
                        .append(random.nextBoolean() ? "sounds ab;" : random.nextBoolean() ? "means a;" : "kind k;");
            } else if (how < 6) {
                text.append(BITS[1 + random.nextInt(5)]);
            } else if (how < 8) {
                text.append(BITS[1 + random.nextInt(5)].trim()).append("*:-&*:-".charAt(random.nextInt(7)));
            } else if (how < 11) {
                text.append(BITS[random.nextInt(BITS.length)]);
            } else {
                text.append((char) random.nextInt(256));
            }
        }
        if (how == 6) {
            text.append('a');
        }
        Harness.tape(x, text.toString());
    }

    /** As many SIGNS as there may be for long ROWS of one SOUND, with and without SIGNS of the KINDS. */
    private static void startLarge(ScribeBlocks x, Random random) {
        StringBuilder list = new StringBuilder("sign i 1 1means c;sign k 1 1kind k;echo 3;");
        int most = 1 + random.nextInt(3);
        for (int s = 0; s < 38 && list.length() < 770; s++) {
            list.append("sign z").append((char) ('a' + s / 20)).append((char) ('a' + s % 20)).append("9 9sounds ")
                    .append("aaa", 0, 1 + random.nextInt(most)).append(';');
        }
        Harness.list(x, list.toString());
        for (int t = 0; t < 30; t++) {
            String kind = random.nextInt(2) == 0 ? "" : random.nextInt(2) == 0 ? " k" : " none";
            Harness.term(x, (char) ('a' + t % 26) + (t < 26 ? " " : "b ") + "aaaaaaaa".substring(random.nextInt(8)) + kind);
            if (random.nextInt(3) == 0) {
                x.say(t);
            }
        }
    }

    private static int run(int seed) {
        Random random = new Random(seed);
        ScribeBlocks x = new ScribeBlocks();
        if (seed % 3 == 0) {
            startLarge(x, random);
        } else {
            Harness.list(x, "sign a 5 5 sounds a; sign b 6 6 sounds ab; sign i 7 7 means a; sign ab 3 9 sounds b;"
                    + "sign k 4 4 kind k; echo 2;");
        }
        int sum = 0;
        for (int n = 0; n < 512; n++) {
            if (random.nextInt(3) == 0) {
                text(x, random);
            }
            sum = sum * 31 + call(x, random);
        }
        return sum;
    }

    private static int call(ScribeBlocks x, Random r) {
        int a = number(r);
        int b = number(r);
        int c = number(r);
        switch (r.nextInt(34)) {
            case 0: return x.feed(a, b, c, r.nextInt(), r.nextInt());
            case 1: return x.end(a);
            case 2: return r.nextInt(4) == 0 ? x.list() : 0;
            case 3: return x.fault(a);
            case 4: return x.rule(a);
            case 5: return x.sign(a, b);
            case 6: return x.named();
            case 7: return x.blocks();
            case 8: return x.block(a, b);
            case 9: return x.box(a, b);
            case 10: return x.face(a > 3);
            case 11: return x.term();
            case 12: return x.about(a, b);
            case 13: return x.spellings(a);
            case 14: return x.best(a);
            case 15: return x.bestSign(a, b);
            case 16: return x.write();
            case 17: return x.written(a);
            case 18: return x.ways();
            case 19: return x.waysOn(a, b);
            case 20: return x.read();
            case 21: return x.readTerm(a, b);
            case 22: return x.spells(a);
            case 23: return x.group();
            case 24: return x.grouped(a, b);
            case 25: return r.nextInt(4) == 0 ? x.clear() : 0;
            case 26: return x.say(a);
            case 27: return x.fill(a);
            case 28: return x.filled(a, b);
            case 29: return x.fills();
            case 30: return x.judge();
            case 31: return x.value(a, b, c);
            case 32: return x.valueOn(a, b, c, number(r));
            default: return x.count(a);
        }
    }
}
