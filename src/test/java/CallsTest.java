/** Promises 1 to 5 and 8 to 11: what the calls answer and refuse, with little or no program. */
public final class CallsTest {
    public static void main(String[] args) {
        newObject();
        pokeAndPeek();
        setAndGet();
        status();
        runRefuses();
        comes();
        reset();
        resetWhenHalted();
        about();
        Rig.end("CallsTest");
    }

    private static void newObject() {
        FrameMachine x = new FrameMachine();
        for (int a = 0; a <= 1022; a += 2) {
            Rig.due("peek", x.peek(a), 0);
        }
        FrameMachine y = new FrameMachine();
        for (int k = 0; k <= 17; k++) {
            Rig.due("get(" + k + ")", y.get(k), 0);
        }
        Rig.due("status", y.get(18), 8192 + 1792);
        int[] want = {0, 0, 0, 256, 0, 0};
        for (int what = 0; what < want.length; what++) {
            Rig.due("about(" + what + ")", y.about(what), want[what]);
        }
        for (int i = -1; i <= 16; i++) {
            Rig.due("gone(" + i + ")", y.gone(i), FrameMachine.NONE);
        }
        deviceBytesOfANewObject();
    }

    private static void deviceBytesOfANewObject() {
        Rig rig = new Rig();
        for (int k = 0; k < 4; k++) {
            rig.d(k, -1).code(Rig.LOAD, Rig.BYTE, k, 6, 1, 0, 61440 + k);
        }
        rig.steps(4).dueD(0, 0xFFFFFF00).dueD(1, 0xFFFFFF00).dueD(2, 0xFFFFFF00).dueD(3, 0xFFFFFF04);
    }

    private static void pokeAndPeek() {
        FrameMachine x = new FrameMachine();
        Rig.due("poke(0, 65535)", x.poke(0, 65535) ? 1 : 0, 1);
        Rig.due("poke(1022, 4660)", x.poke(1022, 4660) ? 1 : 0, 1);
        Rig.due("poke(2, 0)", x.poke(2, 0) ? 1 : 0, 1);
        Rig.due("peek(0)", x.peek(0), 65535);
        Rig.due("peek(2)", x.peek(2), 0);
        Rig.due("peek(1022)", x.peek(1022), 4660);
        x.poke(1022, 1);
        Rig.due("peek(1022)", x.peek(1022), 1);
        int[] wrongAddresses = {-2, -1, 1, 3, 1021, 1023, 1024, 1025, 61440, 61442, 65536,
            Integer.MIN_VALUE, Integer.MAX_VALUE};
        for (int a : wrongAddresses) {
            Rig.refused("poke(" + a + ", 0)", () -> x.poke(a, 0));
            Rig.refused("peek(" + a + ")", () -> x.peek(a));
        }
        int[] wrongWords = {-1, 65536, Integer.MIN_VALUE, Integer.MAX_VALUE};
        for (int w : wrongWords) {
            Rig.refused("poke(0, " + w + ")", () -> x.poke(0, w));
        }
        Rig.due("peek(0)", x.peek(0), 65535);
    }

    private static void setAndGet() {
        FrameMachine x = new FrameMachine();
        for (int k = 0; k <= 17; k++) {
            Rig.due("set(" + k + ")", x.set(k, k * 0x01010101 - 5) ? 1 : 0, 1);
        }
        for (int k = 0; k <= 17; k++) {
            Rig.due("get(" + k + ")", x.get(k), k * 0x01010101 - 5);
        }
        int[] none = {-1, 18, 19, Integer.MIN_VALUE, Integer.MAX_VALUE};
        for (int k : none) {
            Rig.refused("set(" + k + ", 0)", () -> x.set(k, 0));
            if (k != 18) {
                Rig.refused("get(" + k + ")", () -> x.get(k));
            }
        }
        Rig.due("get(18)", x.get(18), 9984);
    }

    private static void status() {
        FrameMachine x = new FrameMachine();
        x.set(15, 100);
        x.set(16, 200);
        Rig.due("status(-1)", x.status(-1), 32768 + 8192 + 1792 + 31);
        Rig.due("get(15)", x.get(15), 100);
        Rig.due("status(0)", x.status(0), 0);
        Rig.due("A7 is the user's", x.get(15), 200);
        Rig.due("OTHER is the supervisor's", x.get(16), 100);
        Rig.due("status(1024 + 64)", x.status(1024 + 64), 1024);
        Rig.due("get(15)", x.get(15), 200);
        x.set(15, 201);
        Rig.due("status(8192)", x.status(8192), 8192);
        Rig.due("get(15)", x.get(15), 100);
        Rig.due("get(16)", x.get(16), 201);
        for (int bit = 0; bit < 32; bit++) {
            int want = 1 << bit & 42783;
            Rig.due("status(1 << " + bit + ")", x.status(1 << bit), want);
            Rig.due("get(18)", x.get(18), want);
        }
    }

    private static void runRefuses() {
        FrameMachine x = new FrameMachine();
        int[] none = {0, -1, 9, Integer.MIN_VALUE, Integer.MAX_VALUE};
        for (int n : none) {
            Rig.refused("run(" + n + ")", () -> x.run(n));
        }
        Rig.due("about(1)", x.about(1), 0);
    }

    private static void comes() {
        FrameMachine x = new FrameMachine();
        int[] none = {-1, 256, Integer.MIN_VALUE, Integer.MAX_VALUE};
        for (int b : none) {
            Rig.refused("comes(" + b + ")", () -> x.comes(b));
        }
        Rig.due("comes(255)", x.comes(255) ? 1 : 0, 1);
        Rig.refused("comes(256)", () -> x.comes(256));
        Rig.due("comes(0)", x.comes(0) ? 1 : 0, 0);
        x.reset();
        Rig.due("comes(0)", x.comes(0) ? 1 : 0, 1);
    }

    private static void reset() {
        FrameMachine x = new FrameMachine();
        x.poke(0, 0x1234);
        x.poke(2, 0x5678);
        x.poke(4, 0xFEDC);
        x.poke(6, 0xBA98);
        for (int k = 0; k <= 17; k++) {
            x.set(k, 1000 + k);
        }
        x.status(32768 + 31);
        Rig.due("reset()", x.reset(), 0xFEDCBA98);
        Rig.due("PC", x.get(17), 0xFEDCBA98);
        Rig.due("A7", x.get(15), 0x12345678);
        Rig.due("OTHER, the user's", x.get(16), 1016);
        Rig.due("status", x.get(18), 8192 + 1792 + 31);
        for (int k = 0; k < 15; k++) {
            Rig.due("get(" + k + ")", x.get(k), 1000 + k);
        }
    }

    private static void resetWhenHalted() {
        FrameMachine x = new FrameMachine();
        x.set(17, 1);
        x.set(15, 3);
        Rig.due("run(2)", x.run(2), 1);
        Rig.due("about(0)", x.about(0), 2);
        x.poke(6, 512);
        x.poke(512, 49152);
        Rig.due("reset()", x.reset(), 512);
        Rig.due("about(0)", x.about(0), 0);
        Rig.due("about(1)", x.about(1), 2);
        Rig.due("about(4)", x.about(4), 3);
        Rig.due("about(5)", x.about(5), 2);
        Rig.due("run(1)", x.run(1), 1);
        Rig.due("PC", x.get(17), 514);
    }

    private static void about() {
        FrameMachine x = new FrameMachine();
        int[] none = {-1, 6, 7, Integer.MIN_VALUE, Integer.MAX_VALUE};
        for (int what : none) {
            Rig.due("about(" + what + ")", x.about(what), FrameMachine.NONE);
        }
        for (int i : none) {
            Rig.due("gone(" + i + ")", x.gone(i), FrameMachine.NONE);
        }
    }
}
