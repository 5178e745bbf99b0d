/** Promises 1 to 11 at their edges: a test of its own for each sentence that names one. */
public final class EdgesOfCallsTest {
    private static final int MIN = Integer.MIN_VALUE;
    private static final int MAX = Integer.MAX_VALUE;
    private static final int NONE = FrameMachine.NONE;
    private static final int NOTHING = Rig.word(Rig.CONTROL, 0, 0, 0, 0);

    public static void main(String[] args) {
        theObject();
        poke();
        peek();
        set();
        status();
        run();
        comes();
        reset();
        get();
        gone();
        about();
        Rig.end("EdgesOfCallsTest");
    }

    private static void theObject() {
        Rig.sentence("An object is used for at most 512 calls after it has been made", () -> {
            FrameMachine x = new FrameMachine();
            for (int i = 0; i < 500; i++) {
                x.run(8);
            }
            for (int i = 0; i < 10; i++) {
                Rig.due("comes", x.comes(i), i == 0);
            }
            Rig.due("about(1), call 511", x.about(1), 4000);
            Rig.due("comes, call 512", x.comes(9), false);
        });
        Rig.sentence("1: Memory, registers and devices 0", () -> {
            FrameMachine x = new FrameMachine();
            Rig.due("the first word", x.peek(0), 0);
            Rig.due("the last word", x.peek(1022), 0);
            Rig.due("D0", x.get(0), 0);
            Rig.due("A7", x.get(15), 0);
            Rig.due("OTHER", x.get(16), 0);
            Rig.due("PC", x.get(17), 0);
            new Rig().d(0, -1).code(Rig.LOAD, Rig.BYTE, 0, 6, 1, 0, 61441).steps(1).dueD(0, -256);
            new Rig().d(0, -1).code(Rig.LOAD, Rig.BYTE, 0, 6, 1, 0, 61442).steps(1).dueD(0, -256);
        });
        Rig.sentence("1: (the count 256)", () -> {
            Rig.due("about(3)", new FrameMachine().about(3), 256);
            new Rig().d(0, -1).code(Rig.LOAD, Rig.BYTE, 0, 6, 1, 0, 61440).steps(1).dueD(0, -256);
        });
        Rig.sentence("1: status 8192 + 1792", () -> Rig.due("get(18)", new FrameMachine().get(18), 9984));
        Rig.sentence("1: Neither STOPPED nor HALTED", () -> {
            FrameMachine x = new FrameMachine();
            Rig.due("about(0)", x.about(0), 0);
            Rig.due("run(1)", x.run(1), 1);
        });
        Rig.sentence("1: A new object has nothing of an older one", () -> {
            FrameMachine old = new FrameMachine();
            old.poke(0, 5);
            old.set(0, 5);
            old.comes(5);
            old.run(8);
            FrameMachine x = new FrameMachine();
            Rig.due("peek(0)", x.peek(0), 0);
            Rig.due("get(0)", x.get(0), 0);
            Rig.due("about(1)", x.about(1), 0);
            Rig.due("about(5)", x.about(5), 0);
            Rig.due("comes(1)", x.comes(1), true);
        });
    }

    private static void poke() {
        Rig.sentence("2: A word of memory becomes w: true (the first, the last; w least and greatest)", () -> {
            FrameMachine x = new FrameMachine();
            Rig.due("poke(0, 65535)", x.poke(0, 65535), true);
            Rig.due("poke(1022, 65535)", x.poke(1022, 65535), true);
            Rig.due("peek(0)", x.peek(0), 65535);
            Rig.due("peek(2)", x.peek(2), 0);
            Rig.due("peek(1020)", x.peek(1020), 0);
            Rig.due("peek(1022)", x.peek(1022), 65535);
            Rig.due("poke(0, 0)", x.poke(0, 0), true);
            Rig.due("peek(0)", x.peek(0), 0);
        });
        Rig.sentence("2: IllegalArgumentException: a is odd", () -> pokeRefuses(new int[] {1, 3, 511, 1021, 1023, -1, MAX}));
        Rig.sentence("2: IllegalArgumentException: a is not 0 .. 1022", () ->
            pokeRefuses(new int[] {-2, 1024, 61440, 61442, 65536, MIN, MAX - 1}));
        Rig.sentence("2: IllegalArgumentException: w is not 0 .. 65535", () -> {
            for (int w : new int[] {-1, 65536, -65536, 131071, MIN, MAX}) {
                FrameMachine x = new FrameMachine();
                x.poke(0, 7);
                Rig.refused("poke(0, " + w + ")", () -> x.poke(0, w));
                Rig.refused("poke(1024, " + w + ")", () -> x.poke(1024, w));
                Rig.due("what was refused changes nothing", x.peek(0), 7);
            }
        });
    }

    private static void pokeRefuses(int[] addresses) {
        for (int a : addresses) {
            FrameMachine x = new FrameMachine();
            Rig.refused("poke(" + a + ", 0)", () -> x.poke(a, 0));
            Rig.refused("poke(" + a + ", 65535)", () -> x.poke(a, 65535));
            Rig.due("what was refused changes nothing", x.peek(0) + x.peek(1020) + x.peek(1022) + x.peek(510), 0);
        }
    }

    private static void peek() {
        Rig.sentence("3: A word of memory (the first, the last)", () -> {
            FrameMachine x = new FrameMachine();
            x.poke(0, 0x8001);
            x.poke(1022, 0xFFFE);
            Rig.due("peek(0)", x.peek(0), 0x8001);
            Rig.due("peek(1022)", x.peek(1022), 0xFFFE);
        });
        Rig.sentence("3: IllegalArgumentException: a is odd", () -> peekRefuses(new int[] {1, 3, 1021, 1023, 1025, -1, MAX}));
        Rig.sentence("3: IllegalArgumentException: a is not 0 .. 1022", () ->
            peekRefuses(new int[] {-2, 1024, 61440, 65536, MIN, MAX - 1}));
    }

    private static void peekRefuses(int[] addresses) {
        for (int a : addresses) {
            FrameMachine x = new FrameMachine();
            Rig.refused("peek(" + a + ")", () -> x.peek(a));
        }
    }

    private static void set() {
        Rig.sentence("4: Register k becomes v: true (the first and the last of each kind, v least and greatest)", () -> {
            for (int k : new int[] {0, 7, 8, 14, 15, 16, 17}) {
                for (int v : new int[] {MIN, -1, 0, 1, MAX}) {
                    FrameMachine x = new FrameMachine();
                    x.set(k, 12345);
                    Rig.due("set(" + k + ", " + v + ")", x.set(k, v), true);
                    for (int other = 0; other <= 17; other++) {
                        Rig.due("get(" + other + ")", x.get(other), other == k ? v : 0);
                    }
                }
            }
        });
        Rig.sentence("4: 8 .. 15 A, 16 OTHER (15 is the user's stack pointer while S is 0, 16 the supervisor's)", () -> {
            FrameMachine x = new FrameMachine();
            x.status(0);
            x.set(15, 100);
            x.set(16, 200);
            x.status(8192);
            Rig.due("A7", x.get(15), 200);
            Rig.due("OTHER", x.get(16), 100);
        });
        Rig.sentence("4: IllegalArgumentException: there is none", () -> {
            for (int k : new int[] {-1, 18, 19, 32, MIN, MAX}) {
                FrameMachine x = new FrameMachine();
                Rig.refused("set(" + k + ", 5)", () -> x.set(k, 5));
                for (int other = 0; other <= 17; other++) {
                    Rig.due("what was refused changes nothing", x.get(other), 0);
                }
                Rig.due("what was refused changes nothing", x.get(18), 9984);
            }
        });
    }

    private static void status() {
        Rig.sentence("5: The status becomes v (only its bits): answers it", () -> {
            FrameMachine x = new FrameMachine();
            for (int bit = 0; bit < 32; bit++) {
                int want = bit == 15 || bit == 13 || bit <= 10 && bit >= 8 || bit <= 4 ? 1 << bit : 0;
                Rig.due("status of bit " + bit, x.status(1 << bit), want);
                Rig.due("get(18)", x.get(18), want);
                Rig.due("status of all but bit " + bit, x.status(~(1 << bit)), 42783 - want);
            }
            Rig.due("status(-1)", x.status(-1), 42783);
            Rig.due("status(0)", x.status(0), 0);
            Rig.due("status(MIN)", x.status(MIN), 0);
            Rig.due("status(MAX)", x.status(MAX), 42783);
        });
        Rig.sentence("5: The status becomes v (S changes which stack pointer A7 is, and only a change does)", () -> {
            FrameMachine x = new FrameMachine();
            x.set(15, 1);
            x.set(16, 2);
            for (int v : new int[] {8192, 0, 65536, 8191, 8192, -1}) {
                x.status(v);
                Rig.due("A7", x.get(15), (v & 8192) != 0 ? 1 : 2);
                Rig.due("OTHER", x.get(16), (v & 8192) != 0 ? 2 : 1);
            }
        });
        Rig.sentence("5: The status becomes v (a machine that STOPPED stays so)", () -> {
            Rig rig = new Rig().code(Rig.CONTROL, 0, 0, 0, 3, 9984).steps(1).status(0);
            rig.dueAbout(0, 1).run(8, 0);
        });
    }

    private static void run() {
        Rig.sentence("6: n steps (the least and the greatest n)", () -> {
            FrameMachine x = new FrameMachine();
            for (int n = 1; n <= 8; n++) {
                int before = x.about(1);
                Rig.due("run(" + n + ")", x.run(n), n);
                Rig.due("about(1)", x.about(1), before + n);
            }
        });
        Rig.sentence("6: IllegalArgumentException: n is not 1 .. 8", () -> {
            for (int n : new int[] {0, -1, -8, 9, 16, MIN, MAX}) {
                Rig rig = new Rig().d(0, 1).code(Rig.STORE, Rig.BYTE, 0, 6, 1, 0, 61441).steps(1);
                Rig.refused("run(" + n + ")", () -> rig.x.run(n));
                rig.dueAbout(1, 1).dueAbout(3, 256).duePc(518);
            }
        });
        Rig.sentence("6: in how many of them an instruction (whatever its end) was done", () -> {
            new Rig().raw(NOTHING).run(1, 1);
            new Rig().raw(0xFFFF).run(1, 1).dueException(4);
            new Rig().pc(513).run(1, 1).dueException(3);
            new Rig().status(0).code(Rig.CONTROL, 0, 0, 0, 3, 0).run(1, 1).dueException(8);
            new Rig().status(Rig.S | Rig.T).code(Rig.TRAP, 0, 0, 0, 0).run(1, 1).dueAbout(5, 2);
            new Rig().a(7, 1).code(Rig.TRAP, 0, 0, 0, 0).run(8, 1).dueAbout(0, 2);
            new Rig().code(Rig.CONTROL, 0, 0, 0, 3, 0).run(8, 1).dueAbout(0, 1);
            Rig.due("a halted machine does nothing", halted().x.run(8), 0);
        });
        Rig.sentence("6: or an exception of a level was done", () -> {
            Rig rig = new Rig().raw(NOTHING);
            rig.x.comes(1);
            rig.run(1, 1).dueException(28);
            Rig stopped = new Rig().code(Rig.CONTROL, 0, 0, 0, 3, Rig.S).steps(1).memory(Rig.handler(28), NOTHING);
            stopped.x.comes(1);
            stopped.run(2, 2).duePc(Rig.handler(28) + 2);
            Rig halts = new Rig().a(7, 1).raw(NOTHING);
            halts.x.comes(1);
            halts.run(8, 1).dueAbout(0, 2);
        });
    }

    private static Rig halted() {
        return new Rig().a(7, 1).pc(513).steps(1).dueAbout(0, 2);
    }

    private static void comes() {
        Rig.sentence("7: A byte comes on the line: true (the least and the greatest)", () -> {
            for (int b : new int[] {0, 1, 254, 255}) {
                Rig rig = new Rig().status(Rig.S | 0x700).d(0, -1).code(Rig.LOAD, Rig.BYTE, 0, 6, 1, 0, 61442);
                Rig.due("comes(" + b + ")", rig.x.comes(b), true);
                rig.steps(1).dueD(0, -256 | b);
            }
        });
        Rig.sentence("7: false if one is there (that stays, and one was LOST)", () -> {
            Rig rig = new Rig().status(Rig.S | 0x700).code(Rig.LOAD, Rig.BYTE, 0, 6, 1, 0, 61443)
                .code(Rig.LOAD, Rig.BYTE, 1, 6, 1, 0, 61442).code(Rig.LOAD, Rig.BYTE, 2, 6, 1, 0, 61442);
            Rig.due("comes(0)", rig.x.comes(0), true);
            Rig.due("comes(1)", rig.x.comes(1), false);
            Rig.due("comes(2)", rig.x.comes(2), false);
            rig.steps(2).dueD(0, 7).dueD(1, 0);
            Rig.due("comes(3)", rig.x.comes(3), true);
            rig.steps(1).dueD(2, 3);
        });
        Rig.sentence("7: IllegalArgumentException: b is not 0 .. 255", () -> {
            for (int b : new int[] {-1, -256, 256, 511, MIN, MAX}) {
                Rig rig = new Rig().status(Rig.S | 0x700).code(Rig.LOAD, Rig.BYTE, 0, 6, 1, 0, 61443)
                    .code(Rig.LOAD, Rig.BYTE, 1, 6, 1, 0, 61443);
                Rig.refused("comes(" + b + ")", () -> rig.x.comes(b));
                rig.steps(1).dueD(0, 4);
                rig.x.comes(1);
                Rig.refused("comes(" + b + ")", () -> rig.x.comes(b));
                rig.steps(1).dueD(1, 5);
            }
        });
        Rig.sentence("7: A byte comes on the line (of a machine that HALTED, too)", () -> {
            Rig rig = halted();
            Rig.due("comes(1)", rig.x.comes(1), true);
            Rig.due("comes(2)", rig.x.comes(2), false);
        });
    }

    private static void reset() {
        Rig.sentence("8: The machine is neither STOPPED nor HALTED", () -> {
            Rig stopped = new Rig().code(Rig.CONTROL, 0, 0, 0, 3, 0x2700).steps(1).dueAbout(0, 1);
            stopped.longAt(4, 700).memory(700, NOTHING).x.reset();
            stopped.dueAbout(0, 0).run(1, 1).duePc(702);
            Rig halted = halted().longAt(4, 700).memory(700, NOTHING);
            halted.x.reset();
            halted.dueAbout(0, 0).run(1, 1).duePc(702).dueAbout(0, 0).dueAbout(5, 2);
        });
        Rig.sentence("8: S is 1, T 0, the mask 7", () -> {
            for (int v : new int[] {0, 31, 32768, 8192, 32768 + 8192 + 31, 42783, 256}) {
                FrameMachine x = new FrameMachine();
                x.status(v);
                x.reset();
                Rig.due("get(18)", x.get(18), 8192 + 1792 + (v & 31));
            }
        });
        Rig.sentence("8: A7 is the long at 0 (the supervisor's; the user's stays)", () -> {
            for (int s : new int[] {0, 8192}) {
                Rig rig = new Rig().longAt(0, 0x80000001).status(Rig.S).a(7, 10).other(20).status(s);
                rig.x.reset();
                rig.dueA(7, 0x80000001).dueOther(20);
            }
        });
        Rig.sentence("8: PC that at 4. Answers PC (no access is made at it)", () -> {
            for (int pc : new int[] {0, 1, -1, 1024, 61440, MIN, MAX}) {
                Rig rig = new Rig().longAt(4, pc);
                Rig.due("reset()", rig.x.reset(), pc);
                rig.duePc(pc).dueNoException().dueAbout(0, 0);
            }
        });
        Rig.sentence("8: devices as at first", () -> {
            Rig rig = new Rig().status(Rig.S | 0x700).d(0, 1).code(Rig.STORE, Rig.BYTE, 0, 6, 1, 0, 61440)
                .code(Rig.STORE, Rig.BYTE, 0, 6, 1, 0, 61441).code(Rig.STORE, Rig.BYTE, 0, 6, 1, 0, 61442)
                .steps(3).dueAbout(3, 1);
            rig.x.comes(1);
            rig.x.comes(2);
            rig.longAt(4, 700).x.reset();
            rig.dueAbout(3, 256).memory(700, Rig.word(Rig.LOAD, Rig.BYTE, 1, 2, 3)).a(3, 61441).steps(1).dueD(1, 0);
            rig.pc(700).a(3, 61443).steps(1).dueD(1, 4);
            rig.pc(700).a(3, 61442).steps(1).dueD(1, 0).dueAbout(3, 256);
            for (int i = 0; i < 8; i++) {
                rig.pc(700).steps(1);
            }
            rig.dueAbout(2, 0);
        });
        Rig.sentence("8: devices as at first (the reload, too: 0, which counts as 256)", () -> {
            FrameMachine x = new FrameMachine();
            int[] words = {Rig.word(Rig.STORE, Rig.BYTE, 0, 6, 1), 0, 61440, Rig.word(Rig.STORE, Rig.BYTE, 1, 6, 1), 0, 61441,
                Rig.word(Rig.BRANCH, 0, 0, 0, 0), 65534};
            for (int i = 0; i < words.length; i++) {
                x.poke(512 + 2 * i, words[i]);
            }
            x.set(0, 5);
            x.set(1, 1);
            x.set(17, 512);
            x.run(2);
            x.reset();
            x.set(17, 518);
            x.run(1);
            for (int i = 0; i < 32; i++) {
                x.run(8);
            }
            Rig.due("about(3)", x.about(3), 256);
            x.run(1);
            Rig.due("about(3)", x.about(3), 255);
        });
        Rig.sentence("8: (what has gone stays told)", () -> {
            FrameMachine x = sent(17);
            x.reset();
            Rig.due("about(2)", x.about(2), 17);
            for (int i = 0; i < 16; i++) {
                Rig.due("gone(" + i + ")", x.gone(i), 17 - i);
            }
        });
    }

    private static void get() {
        Rig.sentence("9: Register k, as in set; 18: the status", () -> {
            FrameMachine x = new FrameMachine();
            for (int k = 0; k <= 17; k++) {
                x.set(k, -k - 1);
            }
            for (int k = 0; k <= 17; k++) {
                Rig.due("get(" + k + ")", x.get(k), -k - 1);
            }
            x.status(42783);
            Rig.due("get(18)", x.get(18), 42783);
        });
        Rig.sentence("9: IllegalArgumentException: there is none", () -> {
            FrameMachine x = new FrameMachine();
            for (int k : new int[] {-1, 19, 20, 32, MIN, MAX}) {
                Rig.refused("get(" + k + ")", () -> x.get(k));
            }
        });
    }

    /** The bytes 1, 2, 3, .. have gone, so many of them. */
    private static FrameMachine sent(int bytes) {
        FrameMachine x = new FrameMachine();
        x.poke(512, Rig.word(Rig.STORE, Rig.BYTE, 0, 2, 0));
        x.poke(514, Rig.word(Rig.BRANCH, 0, 0, 0, 0));
        x.poke(516, 65534);
        x.set(8, 61442);
        for (int i = 1; i <= bytes; i++) {
            x.set(0, i);
            x.set(17, 512);
            x.run(1);
            x.run(8);
        }
        return x;
    }

    private static void gone() {
        Rig.sentence("10: The i-th last byte that has gone (0 the last; 16 are kept)", () -> {
            for (int bytes : new int[] {1, 2, 15, 16, 17, 32, 33}) {
                FrameMachine x = sent(bytes);
                for (int i = 0; i < 20; i++) {
                    Rig.due("gone(" + i + ") of " + bytes, x.gone(i), i < 16 && i < bytes ? bytes - i : NONE);
                }
            }
        });
        Rig.sentence("10: NONE when there is none", () -> {
            for (int bytes : new int[] {0, 1, 20}) {
                FrameMachine x = sent(bytes);
                for (int i : new int[] {-1, -16, MIN, MAX, 16, 17, bytes}) {
                    Rig.due("gone(" + i + ") of " + bytes, x.gone(i), NONE);
                }
            }
            Rig.due("gone(0) of a new object", new FrameMachine().gone(0), -1);
        });
    }

    private static void about() {
        Rig.sentence("11: what 0: 0 neither, 1 STOPPED, 2 HALTED", () -> {
            new Rig().dueAbout(0, 0);
            new Rig().code(Rig.CONTROL, 0, 0, 0, 3, 0).steps(1).dueAbout(0, 1);
            halted().dueAbout(0, 2);
        });
        Rig.sentence("11: 1: steps in all (those too in which nothing is done)", () -> {
            new Rig().dueAbout(1, 0).raw(NOTHING).steps(1).dueAbout(1, 1);
            new Rig().code(Rig.CONTROL, 0, 0, 0, 3, 0).run(8, 1).dueAbout(1, 8);
            halted().run(8, 0).dueAbout(1, 9);
        });
        Rig.sentence("11: 2: bytes gone (more than are kept)", () -> {
            for (int bytes : new int[] {0, 1, 16, 17, 33}) {
                Rig.due("about(2)", sent(bytes).about(2), bytes);
            }
        });
        Rig.sentence("11: 3: the timer's count (256, not 0)", () -> {
            new Rig().dueAbout(3, 256);
            new Rig().code(Rig.STORE, Rig.BYTE, 0, 6, 1, 0, 61440).steps(1).dueAbout(3, 256);
            new Rig().d(0, 255).code(Rig.STORE, Rig.BYTE, 0, 6, 1, 0, 61440).steps(1).dueAbout(3, 255);
        });
        Rig.sentence("11: 4: the latest exception (0 none yet)", () -> {
            Rig rig = new Rig().dueAbout(4, 0).code(Rig.TRAP, 0, 0, 1, 7).steps(1).dueAbout(4, 47);
            rig.x.reset();
            rig.dueAbout(4, 47).a(7, Rig.STACK).pc(512).memory(512, 0xFFFF).steps(1).dueAbout(4, 4);
        });
        Rig.sentence("11: 5: exceptions in all (for both one that follows counts, too, and one that makes the machine HALT)", () -> {
            new Rig().dueAbout(5, 0);
            new Rig().code(Rig.TRAP, 0, 0, 0, 0).steps(1).dueAbout(5, 1).dueAbout(4, 32);
            new Rig().a(7, 1028).code(Rig.TRAP, 0, 0, 0, 0).steps(1).dueAbout(5, 2).dueAbout(4, 2);
            new Rig().a(7, 1).pc(1024).steps(1).dueAbout(5, 2).dueAbout(4, 3).dueAbout(0, 2);
            new Rig().a(7, 0).code(Rig.TRAP, 0, 0, 0, 0).steps(1).dueAbout(5, 3).dueAbout(4, 2).dueAbout(0, 2);
        });
        Rig.sentence("11: NONE for another what", () -> {
            FrameMachine x = new FrameMachine();
            for (int what : new int[] {-1, 6, 7, 256, MIN, MAX}) {
                Rig.due("about(" + what + ")", x.about(what), -1);
            }
        });
    }
}
