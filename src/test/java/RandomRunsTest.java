import java.util.Random;

/** Random programs and calls, each run of calls the same every time, on the program and on the model. */
public final class RandomRunsTest {
    private static final int RUNS = 6000;
    private static final int CALLS = 300;
    private static final int[] ODD_VALUES = {0, 1, -1, 127, 128, 255, 256, 32767, 32768, 65535, 65536, -32768,
        Integer.MAX_VALUE, Integer.MIN_VALUE};
    private static final int[] ADDRESSES = {0, 2, 4, 600, 601, 700, 701, 1016, 1020, 1021, 1022, 1023, 1024, 1026,
        1028, 1030, 61439, 61440, 61441, 61442, 61443, 61444, -1, -2, -4, 512, 516, 900, 990};

    private final Random random;
    private final FrameMachine x = new FrameMachine();
    private final Model y = new Model();
    private final int run;

    private RandomRunsTest(int run) {
        this.run = run;
        random = new Random(run * 7919L + 17);
    }

    public static void main(String[] args) {
        int[] seen = new int[48];
        int halts = 0;
        int sent = 0;
        for (int run = 0; run < RUNS; run++) {
            RandomRunsTest one = new RandomRunsTest(run);
            if (!one.agrees(seen)) {
                System.out.println("run " + run + " differs from the model");
                Rig.due("run " + run, 0, 1);
                break;
            }
            halts += one.x.about(0) == 2 ? 1 : 0;
            sent += one.x.about(2);
            Rig.due("run " + run, 1, 1);
        }
        int[] wanted = {2, 3, 4, 5, 6, 7, 8, 9, 26, 28, 32, 39, 40, 47};
        for (int e : wanted) {
            Rig.due("exception " + e + " was met in enough runs", seen[e] >= 20 ? 1 : 0, 1);
        }
        Rig.due("halts were met", halts >= 20 ? 1 : 0, 1);
        Rig.due("bytes were sent", sent >= 100 ? 1 : 0, 1);
        Rig.end("RandomRunsTest");
    }

    private boolean agrees(int[] seen) {
        begin();
        for (int i = 0; i < CALLS; i++) {
            if (!call() || !same()) {
                return false;
            }
            seen[x.about(4)]++;
        }
        return sameMemory();
    }

    private void begin() {
        boolean wild = run % 4 == 3;
        for (int e = 2; e < 48; e++) {
            both(4 * e + 2, wild && random.nextInt(8) == 0 ? random.nextInt(65536) : 320 + 2 * random.nextInt(40));
        }
        both(2, 1000 + 2 * random.nextInt(13));
        both(6, 512);
        for (int at = 320; at < 400; at += 2) {
            both(at, random.nextInt(3) == 0 ? 49154 : instruction());
        }
        for (int at = 400; at < 1000; at += 2) {
            both(at, random.nextInt(12) == 0 ? oddValue() & 65535 : instruction());
        }
        if (run % 2 == 0) {
            startDevices();
        }
        x.reset();
        y.resetAll();
        for (int k = 0; k < 18; k++) {
            if (k != 15 && k != 17) {
                register(k, k < 8 ? oddValue() : address());
            }
        }
        status(random.nextInt(65536) & ~(random.nextBoolean() ? 32768 : 0) & ~(random.nextInt(4) == 0 ? 0 : 1792)
            | (random.nextInt(3) == 0 ? 0 : 8192));
    }

    /** The timer with a short reload and a byte that is sent, before what is random. */
    private void startDevices() {
        int[] words = {Rig.word(Rig.LOAD, 0, 0, 6, 2), 1 + random.nextInt(30), Rig.word(Rig.STORE, 0, 0, 6, 1), 0, 61440,
            Rig.word(Rig.STORE, 0, 0, 6, 1), 0, 61442, Rig.word(Rig.LOAD, 0, 0, 6, 2), random.nextInt(4),
            Rig.word(Rig.STORE, 0, 0, 6, 1), 0, 61441};
        for (int i = 0; i < words.length; i++) {
            both(512 + 2 * i, words[i]);
        }
    }

    private int oddValue() {
        return random.nextInt(3) == 0 ? random.nextInt() : ODD_VALUES[random.nextInt(ODD_VALUES.length)];
    }

    private int address() {
        return random.nextInt(3) == 0 ? 400 + 2 * random.nextInt(300) : ADDRESSES[random.nextInt(ADDRESSES.length)];
    }

    /** More often an instruction than not. */
    private int instruction() {
        int op = random.nextInt(32);
        int size = random.nextInt(10) == 0 ? 3 : random.nextInt(3);
        if (op >= 18 && op <= 20 || op == 26 || op == 27 || op == 29) {
            size = random.nextInt(10) == 0 ? size : 1;
        }
        if (op == 12 || op == 22 || op == 23) {
            size = random.nextInt(10) == 0 ? size : 2;
        }
        int m = random.nextInt(7);
        int q = m == 6 && random.nextInt(10) != 0 ? random.nextInt(4) : random.nextInt(8);
        return Rig.word(op, size, random.nextInt(8), random.nextInt(30) == 0 ? 7 : m, q);
    }

    private boolean call() {
        switch (random.nextInt(24)) {
            case 0: return register(random.nextInt(8), oddValue());
            case 1: return register(8 + random.nextInt(7), address());
            case 2: return random.nextInt(4) != 0 || register(15 + random.nextInt(2), address());
            case 3: return register(17, random.nextInt(6) == 0 ? address() : 400 + 2 * random.nextInt(300));
            case 4: return random.nextInt(3) != 0 || status(random.nextInt() & (random.nextBoolean() ? -1 : ~1792));
            case 5: return comes(random.nextInt(256));
            case 6: return random.nextInt(8) != 0 || x.reset() == y.resetAll();
            case 7: return both(400 + 2 * random.nextInt(300), instruction());
            case 8: return device();
            default: return steps(1 + random.nextInt(random.nextInt(4) == 0 ? 8 : 3));
        }
    }

    /** An instruction on a byte of a device, which random words would meet too seldom. */
    private boolean device() {
        int[] ops = {Rig.LOAD, Rig.STORE, Rig.STORE, Rig.STORE, Rig.ADDTO, Rig.CLEAR, Rig.NOT, Rig.TEST};
        int at = 2 * random.nextInt(3) + 600;
        return both(at, Rig.word(ops[random.nextInt(ops.length)], 0, random.nextInt(8), 6, 1))
            && both(at + 2, 0) && both(at + 4, 61440 + random.nextInt(4)) && register(17, at) && steps(1);
    }

    private boolean steps(int n) {
        return x.run(n) == y.runSteps(n);
    }

    private boolean comes(int b) {
        return x.comes(b) == y.byteComes(b);
    }

    private boolean register(int k, int v) {
        y.setRegister(k, v);
        return x.set(k, v);
    }

    private boolean status(int v) {
        y.setStatus(v & 65535);
        return x.status(v) == y.getStatus();
    }

    private boolean both(int a, int w) {
        y.pokeWord(a, w);
        return x.poke(a, w);
    }

    private boolean same() {
        boolean same = true;
        for (int k = 0; k <= 18; k++) {
            same &= told("get(" + k + ")", x.get(k), y.getRegister(k));
        }
        for (int what = -1; what <= 6; what++) {
            same &= told("about(" + what + ")", x.about(what), y.tell(what));
        }
        return same;
    }

    private boolean sameMemory() {
        boolean same = true;
        for (int at = 0; at < 1024; at += 2) {
            same &= told("peek(" + at + ")", x.peek(at), y.peekWord(at));
        }
        for (int i = -1; i <= 17; i++) {
            same &= told("gone(" + i + ")", x.gone(i), y.goneBefore(i));
        }
        return same;
    }

    private boolean told(String what, int got, int want) {
        if (got != want) {
            System.out.println("run " + run + ": " + what + " is " + got + ", the model says " + want);
        }
        return got == want;
    }
}
