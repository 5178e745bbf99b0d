/**
 * A machine for tests, with its program at 512, its supervisor's stack at 1000, its user's stack at
 * 900, and every vector e leading to 256 + 2 * e, so that PC tells which exception was taken.
 */
final class Rig {
    static final int LOAD = 0, STORE = 1, LOADA = 2, ADD = 3, SUB = 4, CMP = 5, AND = 6, OR = 7, XOR = 8,
        ADDTO = 9, SUBTO = 10, ADDA = 11, LEA = 12, CLEAR = 13, TEST = 14, NEGATE = 15, NOT = 16, SHIFT = 17,
        MULTIPLY = 18, DIVIDE = 19, DIVIDES = 20, BRANCH = 21, JUMP = 22, CALL = 23, CONTROL = 24, TRAP = 25,
        SETS = 26, GETS = 27, OTHER = 28, CHECK = 29;
    static final int BYTE = 0, WORD = 1, LONG = 2;
    static final int T = 32768, S = 8192, X = 16, N = 8, Z = 4, V = 2, C = 1;
    static final int PROGRAM = 512, STACK = 1000, USER_STACK = 900;
    static final int OTHER_STACK = 16, PC = 17, STATUS = 18;

    private static int calls = 0;
    private static int wrong = 0;

    final FrameMachine x = new FrameMachine();
    private int end = PROGRAM;

    Rig() {
        for (int e = 2; e < 48; e++) {
            x.poke(4 * e + 2, handler(e));
        }
        x.set(15, STACK);
        x.set(OTHER_STACK, USER_STACK);
        x.set(PC, PROGRAM);
        x.status(S);
    }

    static int handler(int e) {
        return 256 + 2 * e;
    }

    static int word(int op, int size, int r, int m, int q) {
        return op * 2048 + size * 512 + r * 64 + m * 8 + q;
    }

    /** One more instruction of the program, with the words that follow its first one. */
    Rig code(int op, int size, int r, int m, int q, int... words) {
        raw(word(op, size, r, m, q));
        for (int w : words) {
            raw(w);
        }
        return this;
    }

    Rig raw(int w) {
        x.poke(end, w & 65535);
        end += 2;
        return this;
    }

    Rig d(int k, int v) {
        x.set(k, v);
        return this;
    }

    Rig a(int k, int v) {
        x.set(8 + k, v);
        return this;
    }

    Rig pc(int v) {
        x.set(PC, v);
        return this;
    }

    Rig status(int v) {
        x.status(v);
        return this;
    }

    Rig memory(int a, int w) {
        x.poke(a, w);
        return this;
    }

    Rig other(int v) {
        x.set(OTHER_STACK, v);
        return this;
    }

    Rig longAt(int a, int v) {
        return memory(a, v >>> 16).memory(a + 2, v & 65535);
    }

    /** So many steps, in each of which something must be done. */
    Rig steps(int n) {
        for (int i = 0; i < n; i++) {
            due("run(1)", x.run(1), 1);
        }
        return this;
    }

    /** So many steps in one call, in which so much must be done. */
    Rig run(int n, int want) {
        due("run(" + n + ")", x.run(n), want);
        return this;
    }

    int peekLong(int a) {
        return x.peek(a) << 16 | x.peek(a + 2);
    }

    Rig dueD(int k, int want) {
        due("D" + k, x.get(k), want);
        return this;
    }

    Rig dueA(int k, int want) {
        due("A" + k, x.get(8 + k), want);
        return this;
    }

    Rig duePc(int want) {
        due("PC", x.get(PC), want);
        return this;
    }

    Rig dueStatus(int want) {
        due("status", x.get(STATUS), want);
        return this;
    }

    /** X, N, Z, V and C alone. */
    Rig dueFlags(int want) {
        due("flags", x.get(STATUS) & 31, want);
        return this;
    }

    Rig dueWord(int a, int want) {
        due("word at " + a, x.peek(a), want);
        return this;
    }

    Rig dueLong(int a, int want) {
        due("long at " + a, peekLong(a), want);
        return this;
    }

    Rig dueOther(int want) {
        due("OTHER", x.get(OTHER_STACK), want);
        return this;
    }

    Rig dueAbout(int what, int want) {
        due("about(" + what + ")", x.about(what), want);
        return this;
    }

    /** The latest exception is e, it is the only one, and its vector was taken. */
    Rig dueException(int e) {
        return dueAbout(4, e).dueAbout(5, 1).duePc(handler(e));
    }

    Rig dueNoException() {
        return dueAbout(4, 0).dueAbout(5, 0);
    }

    /** The frame of two parts that lies at A7. */
    Rig dueShortFrame(int status, int pc) {
        int a = x.get(15);
        return dueWord(a, status).dueLong(a + 2, pc);
    }

    /** The frame of exceptions 2 and 3 that lies at A7. */
    Rig dueLongFrame(int reading, int address, int first, int status, int pc) {
        int a = x.get(15);
        return dueWord(a, reading).dueLong(a + 2, address).dueWord(a + 6, first)
            .dueWord(a + 8, status).dueLong(a + 10, pc);
    }

    /** A test of its own for one sentence of the document, whose words are told when it does not hold. */
    static void sentence(String words, Runnable test) {
        int callsBefore = calls;
        int wrongBefore = wrong;
        try {
            test.run();
        } catch (RuntimeException e) {
            wrong++;
            System.out.println("thrown: " + e);
        }
        if (calls == callsBefore) {
            wrong++;
            System.out.println("nothing was looked at");
        }
        if (wrong != wrongBefore) {
            System.out.println("    this does not hold: " + words);
        }
    }

    static void due(String what, long got, long want) {
        calls++;
        if (got == want) {
            return;
        }
        wrong++;
        System.out.println(place() + ": " + what + " is " + got + ", due is " + want);
    }

    static void due(String what, boolean got, boolean want) {
        due(what, got ? 1 : 0, want ? 1 : 0);
    }

    static void refused(String what, Runnable call) {
        calls++;
        try {
            call.run();
        } catch (IllegalArgumentException e) {
            return;
        }
        wrong++;
        System.out.println(place() + ": " + what + " throws nothing, due is IllegalArgumentException");
    }

    private static String place() {
        for (StackTraceElement e : new Throwable().getStackTrace()) {
            if (!e.getClassName().equals("Rig")) {
                return e.getFileName() + ":" + e.getLineNumber();
            }
        }
        return "?";
    }

    static void end(String name) {
        System.out.println(name + ": " + calls + " answers looked at, " + wrong + " not as due");
        if (wrong != 0 || calls == 0) {
            System.exit(1);
        }
    }
}
