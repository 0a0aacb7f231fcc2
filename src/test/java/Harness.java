import java.nio.charset.StandardCharsets;

/** What the tests share: telling texts to THE TAPE, and comparing answers with those due. */
final class Harness {
    private int wrong;
    private int asked;
    private volatile String part = "";

    void part(String name) {
        part = name;
    }

    /** A call that doesn't end would keep the run waiting for ever: the test fails instead. */
    void watch(int seconds) {
        Thread watcher = new Thread(() -> {
            try {
                Thread.sleep(1000L * seconds);
            } catch (InterruptedException stopped) {
                return;
            }
            System.out.println(part + ": a call has not ended after " + seconds + " seconds");
            Runtime.getRuntime().halt(1);
        });
        watcher.setDaemon(true);
        watcher.start();
    }

    void due(String call, int got, int want) {
        asked++;
        if (got != want) {
            wrong++;
            if (wrong <= 50) {
                System.out.println(part + ": " + call + " answered " + got + ", due is " + want);
            }
        }
    }

    int wrong() {
        return wrong;
    }

    void finish() {
        System.out.println(asked + " answers, " + wrong + " wrong");
        if (wrong != 0 || asked == 0) {
            System.exit(1);
        }
    }

    /** THE TAPE has just these bytes. */
    static void tape(ScribeBlocks x, byte[] bytes) {
        x.end(0);
        for (int at = 0; at < bytes.length; at += 20) {
            x.feed(four(bytes, at), four(bytes, at + 4), four(bytes, at + 8), four(bytes, at + 12),
                    four(bytes, at + 16));
        }
        x.end(bytes.length);
    }

    static void tape(ScribeBlocks x, String text) {
        tape(x, text.getBytes(StandardCharsets.ISO_8859_1));
    }

    private static int four(byte[] bytes, int at) {
        int all = 0;
        for (int i = at; i < at + 4; i++) {
            all = all << 8 | (i < bytes.length ? bytes[i] & 255 : 32);
        }
        return all;
    }

    static int list(ScribeBlocks x, String text) {
        tape(x, text);
        return x.list();
    }

    static int blocks(ScribeBlocks x, String text) {
        tape(x, text);
        return x.blocks();
    }

    static int term(ScribeBlocks x, String text) {
        tape(x, text);
        return x.term();
    }

    static int write(ScribeBlocks x, String text) {
        tape(x, text);
        return x.write();
    }

    static int named(ScribeBlocks x, String text) {
        tape(x, text);
        return x.named();
    }

    static int value(ScribeBlocks x, String text, int s, int from, int day) {
        tape(x, text);
        return x.value(s, from, day);
    }
}
