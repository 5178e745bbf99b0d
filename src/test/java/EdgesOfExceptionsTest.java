/** Terms, an exception and a step, at their edges: a test of its own for each sentence that names one. */
public final class EdgesOfExceptionsTest {
    private static final int MIN = Integer.MIN_VALUE;
    private static final int ALL = 31;
    private static final int TS = Rig.T | Rig.S;
    private static final int NOTHING = Rig.word(Rig.CONTROL, 0, 0, 0, 0);
    private static final int TRAP = Rig.word(Rig.TRAP, 0, 0, 0, 0);

    public static void main(String[] args) {
        statusInAnException();
        frames();
        vectors();
        onesThatFollow();
        halts();
        levels();
        stopped();
        traces();
        Rig.end("EdgesOfExceptionsTest");
    }

    private static void statusInAnException() {
        Rig.sentence("the old status is kept, S becomes 1 (A7 is the supervisor's), T 0", () -> {
            for (int status : new int[] {0, ALL, 0x700, Rig.S, Rig.S | 0x700 | ALL}) {
                new Rig().status(status).raw(TRAP).steps(1).dueException(32).dueStatus(status | Rig.S)
                    .dueShortFrame(status, 514).dueA(7, Rig.STACK - 6).dueOther(Rig.USER_STACK);
            }
            for (int status : new int[] {Rig.T, TS, TS | 0x700 | ALL}) {
                new Rig().status(status).raw(65535).steps(1).dueException(4).dueStatus(status & ~Rig.T | Rig.S)
                    .dueShortFrame(status, 512).dueA(7, Rig.STACK - 6).dueOther(Rig.USER_STACK);
            }
        });
    }

    private static void frames() {
        Rig.sentence("PUSHED (A7 falls, then it is written): PC (a long), the old status (a word)", () -> {
            Rig low = new Rig().a(7, 6).raw(TRAP).steps(1).dueException(32).dueA(7, 0).dueShortFrame(Rig.S, 514);
            low.dueAbout(0, 0);
            new Rig().a(7, 1024).raw(TRAP).steps(1).dueException(32).dueA(7, 1018).dueShortFrame(Rig.S, 514);
            new Rig().memory(1022, TRAP).pc(1022).steps(1).dueException(32).dueShortFrame(Rig.S, 1024);
        });
        Rig.sentence("then for 2 and 3 the first word of the instruction, the ADDRESS of the access (a long), and 1 if it was"
            + " reading, else 0 (a word)", () -> {
                int load = Rig.word(Rig.LOAD, Rig.LONG, 0, 2, 3);
                int store = Rig.word(Rig.STORE, Rig.LONG, 0, 2, 3);
                for (int address : new int[] {1022, 61440, -4, MIN}) {
                    new Rig().a(3, address).raw(load).steps(1).dueException(2).dueA(7, Rig.STACK - 14)
                        .dueLongFrame(1, address, load, Rig.S, 514);
                    new Rig().a(3, address + 1).raw(store).steps(1).dueException(3).dueA(7, Rig.STACK - 14)
                        .dueLongFrame(0, address + 1, store, Rig.S, 514);
                }
                new Rig().a(7, 1024).a(3, -4).raw(load).steps(1).dueException(2).dueA(7, 1010)
                    .dueLongFrame(1, -4, load, Rig.S, 514);
            });
        Rig.sentence("(0 when that could not be read, or there is none)", () -> {
            new Rig().raw(TRAP).steps(1).dueAbout(4, 32).a(7, Rig.STACK).pc(513).steps(1).dueAbout(4, 3)
                .dueLongFrame(1, 513, 0, Rig.S, 513);
            new Rig().raw(TRAP).steps(1).a(7, Rig.STACK).pc(1024).steps(1).dueAbout(4, 2)
                .dueLongFrame(1, 1024, 0, Rig.S, 1024);
            Rig level = new Rig().raw(NOTHING).steps(1).a(7, 1028);
            level.x.comes(1);
            level.steps(1).dueAbout(4, 2).dueAbout(5, 2).dueLongFrame(0, 1024, 0, Rig.S | 0x400, 514);
        });
        Rig.sentence("For 4 and 8 the PC that is pushed is that of the instruction's first word", () -> {
            for (int pc : new int[] {256, 512, 1022}) {
                new Rig().memory(pc, 65535).pc(pc).steps(1).dueException(4).dueShortFrame(Rig.S, pc);
                new Rig().status(0).memory(pc, Rig.word(Rig.OTHER, 0, 0, 0, 0)).pc(pc).steps(1)
                    .dueException(8).dueShortFrame(0, pc);
                new Rig().memory(pc, TRAP).pc(pc).steps(1).dueException(32).dueShortFrame(Rig.S, pc + 2);
            }
        });
    }

    private static void vectors() {
        Rig.sentence("then PC = the long at 4 * e", () -> {
            for (int pc : new int[] {0, 1, -1, 1024, 61440, MIN}) {
                new Rig().longAt(4 * 32, pc).raw(TRAP).steps(1).duePc(pc).dueAbout(5, 1).dueAbout(0, 0);
                new Rig().longAt(4 * 47, pc).code(Rig.TRAP, 0, 0, 1, 7).steps(1).duePc(pc).dueAbout(5, 1);
                new Rig().longAt(4 * 2, pc).pc(1024).steps(1).duePc(pc).dueAbout(5, 1);
            }
        });
        Rig.sentence("then PC = the long at 4 * e (behind the pushes, which may have changed it)", () -> {
            Rig rig = new Rig().a(7, 130).raw(TRAP).steps(1).dueA(7, 124).dueWord(128, 514);
            rig.duePc(514 << 16 | Rig.handler(32));
            new Rig().a(7, 14).pc(513).steps(1).dueAbout(0, 0).dueAbout(4, 3).dueA(7, 0)
                .dueLongFrame(1, 513, 0, Rig.S, 513).duePc(513 << 16 | Rig.handler(3));
        });
    }

    private static void onesThatFollow() {
        Rig.sentence("of another one exception 2 or 3 follows", () -> {
            new Rig().a(7, 1028).raw(TRAP).steps(1).dueAbout(4, 2).dueAbout(5, 2).dueAbout(0, 0).duePc(Rig.handler(2))
                .dueA(7, 1010).dueLongFrame(0, 1024, TRAP, Rig.S, 514);
            new Rig().a(7, 1026).raw(TRAP).steps(1).dueAbout(4, 2).dueAbout(5, 2).dueAbout(0, 0).duePc(Rig.handler(2))
                .dueA(7, 1008).dueLongFrame(0, 1022, TRAP, Rig.S, 514);
            new Rig().a(7, 1024).raw(TRAP).steps(1).dueAbout(4, 32).dueAbout(5, 1);
        });
        Rig.sentence("of another one exception 2 or 3 follows (of each other one)", () -> {
            follows(new Rig().status(0).raw(65535), 65535);
            follows(new Rig().status(0).code(Rig.DIVIDE, 1, 0, 0, 1), Rig.word(Rig.DIVIDE, 1, 0, 0, 1));
            follows(new Rig().status(0).d(0, 1).code(Rig.CHECK, 1, 0, 0, 1), Rig.word(Rig.CHECK, 1, 0, 0, 1));
            follows(new Rig().status(Rig.V).code(Rig.CONTROL, 0, 0, 0, 4), Rig.word(Rig.CONTROL, 0, 0, 0, 4));
            follows(new Rig().status(0).code(Rig.OTHER, 0, 0, 0, 0), Rig.word(Rig.OTHER, 0, 0, 0, 0));
            follows(new Rig().status(Rig.T).raw(NOTHING), NOTHING);
            Rig level = new Rig().status(0);
            level.x.comes(1);
            follows(level, 0);
        });
        Rig.sentence("(with the old status as it is then, and the same first word)", () -> {
            new Rig().status(ALL | 0x300).other(1028).raw(TRAP).steps(1)
                .dueLongFrame(0, 1024, TRAP, Rig.S | ALL | 0x300, 514);
            new Rig().status(Rig.T | ALL).other(1028).raw(65535).steps(1).dueAbout(5, 2).dueStatus(Rig.S | ALL);
            Rig level = new Rig().status(TS | 0x300).a(7, 1028);
            level.x.comes(1);
            level.steps(1).dueLongFrame(0, 1024, 0, Rig.S | 0x400, 512).dueStatus(Rig.S | 0x400);
            Rig trace = new Rig().status(TS | 0x300).a(7, 1028).raw(NOTHING).steps(1);
            trace.dueLongFrame(0, 1024, NOTHING, Rig.S | 0x300, 514).dueStatus(Rig.S | 0x300);
        });
    }

    /** The supervisor's stack is above memory, so that the first push fails and those behind it do not. */
    private static void follows(Rig rig, int first) {
        rig.other(1028).steps(1).dueAbout(4, 2).dueAbout(5, 2).dueAbout(0, 0).dueA(7, 1010).duePc(Rig.handler(2));
        rig.dueWord(1010, 0).dueLong(1012, 1024).dueWord(1016, first);
    }

    private static void halts() {
        Rig.sentence("of an exception 2 or 3 the machine HALTS", () -> {
            for (int stack : new int[] {0, 2, 4, 6, 8, 10, 12, 1026, 1028, -2, MIN}) {
                new Rig().a(7, stack).pc(513).steps(1).dueAbout(0, 2).dueAbout(4, 2).dueAbout(5, 2).duePc(513);
                new Rig().a(7, stack).pc(1024).steps(1).dueAbout(0, 2).dueAbout(4, 2).dueAbout(5, 2).duePc(1024);
            }
            for (int stack : new int[] {1, 701, 1025, -1}) {
                new Rig().a(7, stack).pc(513).steps(1).dueAbout(0, 2).dueAbout(4, 3).dueAbout(5, 2).duePc(513);
                new Rig().a(7, stack).pc(1024).steps(1).dueAbout(0, 2).dueAbout(4, 3).dueAbout(5, 2).duePc(1024);
            }
            new Rig().a(7, 14).pc(1024).steps(1).dueAbout(0, 0).dueAbout(5, 1);
            new Rig().a(7, 1024).pc(1024).steps(1).dueAbout(0, 0).dueAbout(5, 1);
        });
        Rig.sentence("of another one exception 2 or 3 follows: of that one the machine HALTS", () -> {
            for (int stack : new int[] {0, 2, 4, 1, 701, -2, 1032, MIN}) {
                new Rig().a(7, stack).raw(TRAP).steps(1).dueAbout(0, 2).dueAbout(5, 3).dueAbout(4, stack % 2 == 0 ? 2 : 3)
                    .duePc(514).dueStatus(Rig.S);
            }
            new Rig().a(7, 6).raw(TRAP).steps(1).dueAbout(0, 0).dueAbout(5, 1);
        });
        Rig.sentence("the machine HALTS: what was pushed before stays so", () -> {
            Rig rig = new Rig().status(Rig.T | ALL).other(12).pc(513).steps(1).dueAbout(0, 2).dueA(7, -2);
            rig.dueOther(Rig.USER_STACK).dueStatus(Rig.S | ALL);
            rig.dueLong(8, 513).dueWord(6, Rig.T | ALL).dueWord(4, 0).dueLong(0, 513);
        });
        Rig.sentence("the machine HALTS (for good)", () -> {
            Rig rig = new Rig().a(7, 1).pc(513).steps(1).dueAbout(0, 2);
            rig.a(7, Rig.STACK).pc(512).memory(512, NOTHING).status(Rig.S).run(8, 0).duePc(512).dueAbout(0, 2);
            rig.x.comes(1);
            rig.run(8, 0).duePc(512).dueAbout(0, 2).dueAbout(5, 2);
        });
        Rig.sentence("A STEP: nothing if the machine HALTED", () -> {
            Rig rig = new Rig().d(0, 1).code(Rig.STORE, Rig.BYTE, 0, 6, 1, 0, 61441)
                .code(Rig.STORE, Rig.BYTE, 0, 6, 1, 0, 61442).steps(2).a(7, 1).pc(513).steps(1).dueAbout(0, 2);
            rig.dueAbout(3, 254).run(8, 0).run(8, 0).dueAbout(3, 254).dueAbout(2, 0);
        });
    }

    private static void levels() {
        Rig.sentence("First the devices: the timer, then the line", () -> {
            Rig rig = timerDueInNextStep().status(Rig.S).pc(700).memory(700, Rig.word(Rig.NOT, Rig.LONG, 0, 0, 0));
            rig.steps(1).dueAbout(4, 26).dueLong(Rig.STACK - 4, 700);
        });
        Rig.sentence("if a LEVEL is above the mask", () -> {
            for (int mask = 0; mask <= 7; mask++) {
                Rig line = new Rig().status(Rig.S | mask * 256).raw(NOTHING);
                line.x.comes(1);
                line.steps(1).dueAbout(4, mask < 4 ? 28 : 0);
                Rig timer = timerDueInNextStep().status(Rig.S | mask * 256).memory(700, NOTHING).pc(700).steps(1);
                timer.dueAbout(4, mask < 2 ? 26 : 0);
            }
        });
        Rig.sentence("(4 before 2)", () -> {
            for (int mask = 0; mask <= 7; mask++) {
                Rig both = timerDueInNextStep().status(Rig.S | mask * 256).memory(700, NOTHING).pc(700);
                both.x.comes(1);
                both.steps(1).dueAbout(4, mask < 4 ? 28 : 0).dueAbout(5, mask < 4 ? 1 : 0);
            }
        });
        Rig.sentence("exception 24 + level, in which the mask becomes the level behind keeping the old status", () -> {
            for (int mask = 0; mask < 4; mask++) {
                Rig line = new Rig().status(Rig.T | mask * 256 | ALL);
                line.x.comes(1);
                line.steps(1).dueException(28).dueShortFrame(Rig.T | mask * 256 | ALL, 512).dueStatus(Rig.S | 0x400 | ALL);
            }
            for (int mask = 0; mask < 2; mask++) {
                Rig timer = timerDueInNextStep().status(mask * 256 | ALL).pc(700).steps(1).dueException(26);
                timer.dueShortFrame(mask * 256 | ALL, 700).dueStatus(Rig.S | 0x200 | ALL);
            }
        });
        Rig.sentence("the step is over", () -> {
            Rig rig = new Rig().memory(Rig.handler(28), Rig.word(Rig.NOT, Rig.LONG, 0, 0, 0))
                .code(Rig.NOT, Rig.LONG, 0, 0, 1);
            rig.x.comes(1);
            rig.steps(1).dueD(0, 0).dueD(1, 0).duePc(Rig.handler(28)).steps(1).dueD(0, -1).dueD(1, 0).dueAbout(5, 1);
        });
    }

    /** The timer runs with a count of 1: it is due in the step that comes. The status masks it till then. */
    private static Rig timerDueInNextStep() {
        return new Rig().status(Rig.S | 0x700).d(7, 1).memory(600, Rig.word(Rig.STORE, Rig.BYTE, 7, 6, 1)).longAt(602, 61440)
            .memory(606, Rig.word(Rig.STORE, Rig.BYTE, 7, 6, 1)).longAt(608, 61441).pc(600).steps(2).dueAbout(3, 1);
    }

    private static void stopped() {
        Rig.sentence("it is STOPPED no more", () -> {
            Rig rig = new Rig().code(Rig.CONTROL, 0, 0, 0, 3, Rig.S | 0x300).steps(1).dueAbout(0, 1).run(1, 0);
            rig.x.comes(1);
            rig.memory(Rig.handler(28), NOTHING).run(1, 1).dueAbout(0, 0).dueException(28).dueShortFrame(Rig.S | 0x300, 516)
                .run(1, 1).duePc(Rig.handler(28) + 2);
        });
        Rig.sentence("If STOPPED: over (a level that is not above the mask does not end it)", () -> {
            Rig rig = new Rig().code(Rig.CONTROL, 0, 0, 0, 3, Rig.S | 0x400).steps(1).raw(NOTHING);
            rig.x.comes(1);
            rig.run(8, 0).dueAbout(0, 1).duePc(516).dueNoException().dueAbout(1, 9);
            rig.status(Rig.S | 0x300).run(1, 1).dueAbout(0, 0).dueException(28);
        });
        Rig.sentence("If STOPPED: over (the devices go on)", () -> {
            Rig rig = timerDueInNextStep().memory(700, Rig.word(Rig.CONTROL, 0, 0, 0, 3)).memory(702, Rig.S | 0x700).pc(700)
                .memory(600, Rig.word(Rig.STORE, Rig.BYTE, 7, 6, 1)).d(7, 9).longAt(602, 61440).pc(600).steps(1)
                .dueAbout(3, 9).pc(700).steps(1).dueAbout(3, 8).run(7, 0).dueAbout(3, 1).run(1, 0).dueAbout(3, 9);
            rig.dueAbout(0, 1);
        });
    }

    private static void traces() {
        Rig.sentence("if T was 1 before it, exception 9 follows", () -> {
            for (int status : new int[] {Rig.T, TS, TS | 0x700 | ALL}) {
                new Rig().status(status).raw(NOTHING).steps(1).dueException(9).dueShortFrame(status, 514)
                    .dueStatus(status & ~Rig.T | Rig.S);
            }
            new Rig().status(Rig.S | 0x700 | ALL).raw(NOTHING).steps(1).dueNoException();
        });
        Rig.sentence("if T was 1 before it (and not if it is 1 only behind it)", () -> {
            new Rig().status(TS).code(Rig.SETS, 1, 0, 6, 2, 0).steps(1).dueException(9).dueShortFrame(0, 516);
            new Rig().status(Rig.S).code(Rig.SETS, 1, 0, 6, 2, TS).raw(NOTHING).steps(1).dueNoException().steps(1)
                .dueException(9).dueShortFrame(TS, 518);
            new Rig().memory(Rig.STACK, TS).longAt(Rig.STACK + 2, 700).memory(700, NOTHING).code(Rig.CONTROL, 0, 0, 0, 2)
                .steps(1).dueNoException().steps(1).dueException(9);
            new Rig().status(TS).memory(Rig.STACK, 0).longAt(Rig.STACK + 2, 700).code(Rig.CONTROL, 0, 0, 0, 2).steps(1)
                .dueException(9).dueShortFrame(0, 700).dueA(7, Rig.STACK);
        });
        Rig.sentence("and it did not end in an exception 2, 3, 4 or 8", () -> {
            new Rig().status(TS).pc(1024).steps(1).dueException(2);
            new Rig().status(TS).pc(513).steps(1).dueException(3);
            new Rig().status(TS).raw(65535).steps(1).dueException(4);
            new Rig().status(Rig.T).code(Rig.CONTROL, 0, 0, 0, 2).steps(1).dueException(8);
        });
        Rig.sentence("(behind its own one)", () -> {
            behindItsOwn(32, new Rig().status(TS).raw(TRAP), 0);
            behindItsOwn(47, new Rig().status(TS).code(Rig.TRAP, 0, 0, 1, 7), 0);
            behindItsOwn(5, new Rig().status(TS).code(Rig.DIVIDES, 1, 0, 0, 1), 0);
            behindItsOwn(6, new Rig().status(TS).d(0, -1).code(Rig.CHECK, 1, 0, 0, 1), Rig.N);
            behindItsOwn(7, new Rig().status(TS | Rig.V).code(Rig.CONTROL, 0, 0, 0, 4), Rig.V);
        });
        Rig.sentence("(not if it STOPPED the machine)", () -> {
            new Rig().status(TS).code(Rig.CONTROL, 0, 0, 0, 3, TS).steps(1).dueNoException().dueAbout(0, 1).run(8, 0)
                .dueNoException();
            new Rig().status(TS).code(Rig.CONTROL, 0, 0, 0, 3, 0).steps(1).dueNoException().dueAbout(0, 1);
        });
        Rig.sentence("exception 9 follows an instruction, and no exception of a level", () -> {
            Rig rig = new Rig().status(TS).raw(NOTHING);
            rig.x.comes(1);
            rig.steps(1).dueException(28).dueShortFrame(TS, 512);
        });
        Rig.sentence("exception 9 follows: not of a machine that HALTED", () ->
            new Rig().status(TS).a(7, 1).raw(TRAP).steps(1).dueAbout(0, 2).dueAbout(4, 3).dueAbout(5, 3));
    }

    private static void behindItsOwn(int e, Rig rig, int flags) {
        rig.steps(1).dueAbout(4, 9).dueAbout(5, 2).duePc(Rig.handler(9)).dueA(7, Rig.STACK - 12);
        rig.dueShortFrame(Rig.S | flags, Rig.handler(e)).dueWord(Rig.STACK - 6, TS | flags).dueLong(Rig.STACK - 4, 514);
    }
}
