import com.sun.management.ThreadMXBean;
import java.lang.management.ManagementFactory;

/** One room for all calls: an object is small, and its calls make nothing new. */
public final class RoomTest {
    private static final ThreadMXBean BEAN = (ThreadMXBean) ManagementFactory.getThreadMXBean();
    private static final Harness H = new Harness();

    private static long made() {
        return BEAN.getThreadAllocatedBytes(Thread.currentThread().getId());
    }

    public static void main(String[] args) {
        oneObject();
        calls();
        deep();
        H.finish();
    }

    private static void oneObject() {
        H.part("a new object");
        new ScribeBlocks();
        long before = made();
        ScribeBlocks x = new ScribeBlocks();
        long bytes = made() - before;
        System.out.println("a new object: " + bytes + " bytes");
        H.due("below 64 KiB", bytes < 65536 ? 1 : 0, 1);
        H.due("it is there", x.rule(0), 0);
    }

    private static void everyCall(ScribeBlocks x, int n) {
        x.end(0);
        x.feed(0x7369676e, 0x20612035, 0x20363b20, 0x20202020, 0x20202020);
        x.fault(0);
        x.rule(1);
        x.sign(0, 0);
        x.block(0, 0);
        x.box(0, 2);
        x.face(n % 2 == 0);
        x.about(0, 0);
        x.spellings(0);
        x.best(0);
        x.bestSign(0, 0);
        x.written(0);
        x.ways();
        x.waysOn(5, 5);
        x.read();
        x.readTerm(0, 0);
        x.spells(0);
        x.group();
        x.grouped(0, 0);
        x.fill(1 + n % 144);
        x.filled(0, 10);
        x.fills();
        x.judge();
        x.valueOn(0, 5, 5, 0);
        x.count(0);
        x.clear();
        x.say(0);
        // the six that read THE TAPE, each with what it can't read
        x.list();
        x.named();
        x.blocks();
        x.term();
        x.write();
        x.value(0, 0, 0);
    }

    private static void calls() {
        H.part("calls");
        ScribeBlocks x = new ScribeBlocks();
        prepare(x);
        for (int n = 0; n < 50; n++) {
            everyCall(x, n);
        }
        prepare(x);
        long before = made();
        for (int n = 0; n < 200; n++) {
            everyCall(x, n);
        }
        long bytes = made() - before;
        System.out.println("6600 calls: " + bytes + " bytes");
        H.due("next to nothing", bytes < 10000 ? 1 : 0, 1);
    }

    private static void prepare(ScribeBlocks x) {
        Harness.list(x, "sign a 5 5 sounds a; sign b 6 6 sounds ab; sign c 7 7 means t; echo 3;");
        Harness.term(x, "t aabab");
        Harness.blocks(x, "((((a&b))))*c:a-c");
        Harness.write(x, "a b a b a b a b");
        x.clear();
        x.say(0);
    }

    /** The dearest of all: 40 SIGNS, long ROWS, twelve TERMS. */
    private static void deep() {
        H.part("the dearest calls");
        StringBuilder text = new StringBuilder();
        for (int s = 0; s < 40; s++) {
            text.append("sign ").append(ListTest.name(s)).append(" 5 5 sounds ").append("aaa", 0, 1 + s % 3).append(';');
        }
        ScribeBlocks x = new ScribeBlocks();
        Harness.tape(x, text.substring(0, Math.min(800, text.length())));
        while (x.list() < 0) {
            text.setLength(text.lastIndexOf("sign"));
            Harness.tape(x, text.toString());
        }
        for (int t = 0; t < 40; t++) {
            Harness.term(x, ListTest.name(t) + " aaaaaaaa");
        }
        Harness.write(x, ("aa ").repeat(24));
        for (int i = 0; i < 12; i++) {
            x.say(i);
        }
        long before = made();
        for (int t = 0; t < 40; t++) {
            H.due("spellings", x.spellings(t), -3);
            x.best(t);
        }
        H.due("ways", x.ways(), 64000);
        H.due("fill", x.fill(5), -3);
        x.read();
        x.group();
        long bytes = made() - before;
        H.due("next to nothing", bytes < 10000 ? 1 : 0, 1);
    }
}
