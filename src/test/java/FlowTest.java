/** Branches, jumps, calls, returns, traps and the stop: instructions 21 to 25. */
public final class FlowTest {
    public static void main(String[] args) {
        everyCondition();
        branches();
        calls();
        jumps();
        returns();
        stop();
        trapOnV();
        traps();
        rights();
        Rig.end("FlowTest");
    }

    private static boolean met(int condition, int flags) {
        boolean n = (flags & Rig.N) != 0;
        boolean z = (flags & Rig.Z) != 0;
        boolean v = (flags & Rig.V) != 0;
        boolean c = (flags & Rig.C) != 0;
        boolean[] all = {true, true, !c && !z, c || z, !c, c, !z, z, !v, v, !n, n, n == v, n != v, n == v && !z,
            n != v || z};
        return all[condition];
    }

    private static void everyCondition() {
        for (int condition = 0; condition < 16; condition++) {
            for (int flags = 0; flags < 32; flags++) {
                Rig rig = new Rig().status(Rig.S | flags).code(Rig.BRANCH, condition / 8, condition % 8, 7, 7, 100);
                rig.steps(1).duePc(met(condition, flags) ? 614 : 516).dueStatus(Rig.S | flags).dueNoException();
                rig.dueA(7, condition == 1 ? Rig.STACK - 4 : Rig.STACK);
            }
        }
        for (int condition = 16; condition < 32; condition++) {
            new Rig().code(Rig.BRANCH, condition / 8, condition % 8, 0, 0, 100).steps(1)
                .dueException(4).dueShortFrame(Rig.S, 512);
        }
    }

    private static void branches() {
        new Rig().code(Rig.BRANCH, 0, 0, 0, 0, -2).steps(1).duePc(512);
        new Rig().code(Rig.BRANCH, 0, 0, 0, 0, 32768).steps(1).duePc(514 - 32768);
        new Rig().code(Rig.BRANCH, 0, 0, 0, 0, 1).steps(1).duePc(515).dueNoException().steps(1)
            .dueException(3).dueLongFrame(1, 515, 0, Rig.S, 515);
        int never = Rig.word(Rig.BRANCH, 0, 5, 0, 0);
        new Rig().memory(1022, never).pc(1022).a(7, 800).steps(1).dueException(2).dueLongFrame(1, 1024, never, Rig.S, 1024);
    }

    private static void calls() {
        new Rig().code(Rig.BRANCH, 0, 1, 0, 0, 100).steps(1).duePc(614).dueA(7, 996).dueLong(996, 516);
        new Rig().status(0).code(Rig.CALL, Rig.LONG, 0, 6, 1, 0, 700).steps(1)
            .duePc(700).dueA(7, Rig.USER_STACK - 4).dueLong(Rig.USER_STACK - 4, 518);
        new Rig().code(Rig.CALL, Rig.LONG, 0, 2, 7).steps(1).duePc(Rig.STACK).dueLong(996, 514);
        int word = Rig.word(Rig.CALL, Rig.LONG, 0, 6, 0);
        new Rig().status(0).a(7, 901).code(Rig.CALL, Rig.LONG, 0, 6, 0, 700).steps(1)
            .dueException(3).dueLongFrame(0, 897, word, 0, 516);
        int branch = Rig.word(Rig.BRANCH, 0, 1, 0, 0);
        Rig low = new Rig().status(0).a(7, 2).code(Rig.BRANCH, 0, 1, 0, 0, 700).steps(1);
        low.dueException(2).dueLongFrame(0, -2, branch, 0, 516);
        Rig.due("the user's stack has fallen", low.x.get(Rig.OTHER_STACK), -2);
    }

    private static void jumps() {
        new Rig().a(3, 700).code(Rig.JUMP, Rig.LONG, 0, 2, 3).steps(1).duePc(700).dueA(7, Rig.STACK);
        new Rig().a(3, 700).code(Rig.JUMP, Rig.LONG, 0, 5, 3, -100).steps(1).duePc(600);
        new Rig().code(Rig.JUMP, Rig.LONG, 0, 6, 0, 40000).steps(1).duePc(40000 - 65536).dueNoException();
        new Rig().code(Rig.JUMP, Rig.LONG, 0, 6, 1, 1, 3).steps(1).duePc(65539).dueNoException();
        new Rig().code(Rig.JUMP, Rig.LONG, 0, 6, 3, 100).steps(1).duePc(614);
    }

    private static void returns() {
        new Rig().longAt(Rig.STACK, 0x12345678).code(Rig.CONTROL, 0, 0, 0, 1).steps(1).duePc(0x12345678).dueA(7, Rig.STACK + 4);
        int word = Rig.word(Rig.CONTROL, 0, 0, 0, 1);
        Rig failed = new Rig().status(0).a(7, 1022).raw(word).steps(1);
        failed.dueException(2).dueLongFrame(1, 1022, word, 0, 514);
        Rig.due("the user's stack has not grown", failed.x.get(Rig.OTHER_STACK), 1022);
        Rig back = new Rig().memory(Rig.STACK, 0x5F1F).longAt(Rig.STACK + 2, 700).code(Rig.CONTROL, 3, 7, 7, 2).steps(1);
        back.duePc(700).dueStatus(0x071F).dueA(7, Rig.USER_STACK);
        Rig.due("the supervisor's stack has grown", back.x.get(Rig.OTHER_STACK), Rig.STACK + 6);
        int from = Rig.word(Rig.CONTROL, 0, 0, 0, 2);
        Rig half = new Rig().a(7, 1020).memory(1020, 0).raw(from).steps(1);
        half.dueException(2).dueA(7, 1022 - 14).dueLongFrame(1, 1022, from, Rig.S, 514);
    }

    private static void stop() {
        Rig rig = new Rig().code(Rig.CONTROL, 2, 1, 6, 3, 0xFFFF).steps(1).dueStatus(42783).duePc(516).dueAbout(0, 1);
        Rig.due("run(8)", rig.x.run(8), 0);
        rig.dueAbout(1, 9).duePc(516).dueNoException();
        Rig user = new Rig().code(Rig.CONTROL, 0, 0, 0, 3, 0).steps(1).dueStatus(0).dueA(7, Rig.USER_STACK).dueAbout(0, 1);
        user.x.comes(1);
        user.steps(1).dueAbout(0, 0).dueException(28).dueShortFrame(0, 516);
        int word = Rig.word(Rig.CONTROL, 0, 0, 0, 3);
        new Rig().a(7, 800).memory(1022, word).pc(1022).steps(1).dueException(2).dueAbout(0, 0)
            .dueLongFrame(1, 1024, word, Rig.S, 1024);
        Rig reset = new Rig().code(Rig.CONTROL, 0, 0, 0, 3, 0x2700).steps(1).dueAbout(0, 1);
        reset.x.reset();
        reset.dueAbout(0, 0);
    }

    private static void trapOnV() {
        new Rig().status(Rig.S | Rig.V).code(Rig.CONTROL, 0, 0, 0, 4).steps(1)
            .dueException(7).dueShortFrame(Rig.S | Rig.V, 514);
        new Rig().status(Rig.S | 31 - Rig.V).code(Rig.CONTROL, 0, 0, 0, 4).steps(1).dueNoException().duePc(514);
        new Rig().status(31).code(Rig.CONTROL, 3, 7, 7, 0).steps(1).dueNoException().duePc(514).dueStatus(31);
    }

    private static void traps() {
        for (int m = 0; m < 8; m++) {
            for (int q = 0; q < 8; q++) {
                Rig rig = new Rig().status(Rig.C).code(Rig.TRAP, m % 4, q, m, q).steps(1);
                rig.dueException(32 + q + (m % 2 == 1 ? 8 : 0)).dueShortFrame(Rig.C, 514).dueStatus(Rig.S | Rig.C);
                rig.dueA(7, Rig.STACK - 6);
            }
        }
    }

    /** Exception 8 without S, before a further word is read; exception 4 where it is none at all. */
    private static void rights() {
        int[] words = {Rig.word(Rig.CONTROL, 0, 0, 0, 2), Rig.word(Rig.CONTROL, 0, 0, 0, 3), Rig.word(Rig.SETS, 1, 0, 0, 0),
            Rig.word(Rig.SETS, 1, 0, 6, 2), Rig.word(Rig.SETS, 1, 0, 3, 2), Rig.word(Rig.OTHER, 0, 0, 0, 0),
            Rig.word(Rig.OTHER, 3, 0, 7, 7)};
        for (int word : words) {
            Rig rig = new Rig().status(0x400).a(2, 700).memory(1022, word).pc(1022).steps(1);
            rig.dueException(8).dueShortFrame(0x400, 1022).dueStatus(Rig.S | 0x400).dueA(2, 700).dueA(7, Rig.STACK - 6);
        }
        int[] none = {Rig.word(Rig.SETS, 0, 0, 0, 0), Rig.word(Rig.SETS, 1, 0, 1, 0), Rig.word(Rig.CONTROL, 0, 0, 0, 5)};
        for (int word : none) {
            new Rig().status(0).raw(word).steps(1).dueException(4).dueShortFrame(0, 512);
        }
    }
}
