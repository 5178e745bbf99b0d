/** Exception 9 behind an instruction. */
public final class TracesTest {
    private static final int TS = Rig.T | Rig.S;
    private static final int NOTHING = Rig.word(Rig.CONTROL, 0, 0, 0, 0);

    public static void main(String[] args) {
        plain();
        whatItDoesToT();
        behindItsOwnException();
        notBehindFailures();
        notBehindAStop();
        notBehindALevel();
        Rig.end("TracesTest");
    }

    private static void plain() {
        new Rig().status(TS | 0x21F).raw(NOTHING).steps(1).dueException(9).dueA(7, 994)
            .dueShortFrame(TS | 0x21F, 514).dueStatus(Rig.S | 0x21F);
        new Rig().status(Rig.T).code(Rig.BRANCH, 0, 0, 0, 0, 100).steps(1).dueException(9).dueShortFrame(Rig.T, 614);
        new Rig().status(Rig.S).raw(NOTHING).steps(1).dueNoException();
        new Rig().status(TS).d(0, 0).code(Rig.TEST, Rig.WORD, 0, 0, 0).steps(1).dueException(9).dueShortFrame(TS | Rig.Z, 514);
    }

    /** T before the instruction counts, not T behind it. */
    private static void whatItDoesToT() {
        new Rig().status(TS).code(Rig.SETS, Rig.WORD, 0, 6, 2, 5).steps(1).dueException(9).dueShortFrame(5, 516);
        new Rig().status(Rig.S).code(Rig.SETS, Rig.WORD, 0, 6, 2, TS).raw(NOTHING).steps(1).dueNoException().dueStatus(TS)
            .steps(1).dueException(9).dueShortFrame(TS, 518);
        new Rig().memory(Rig.STACK, Rig.T).longAt(Rig.STACK + 2, 700).memory(700, NOTHING)
            .code(Rig.CONTROL, 0, 0, 0, 2).steps(1).dueNoException().duePc(700).steps(1).dueException(9)
            .dueShortFrame(Rig.T, 702);
    }

    private static void behindItsOwnException() {
        behind(32, 514, new Rig().status(TS).code(Rig.TRAP, 0, 0, 0, 0));
        behind(5, 514, new Rig().status(TS).code(Rig.DIVIDE, Rig.WORD, 0, 0, 1));
        behind(6, 514, new Rig().status(TS).d(0, 5).code(Rig.CHECK, Rig.WORD, 0, 0, 1));
        behind(7, 514, new Rig().status(TS | Rig.V).code(Rig.CONTROL, 0, 0, 0, 4));
    }

    private static void behind(int e, int pc, Rig rig) {
        int status = rig.x.get(Rig.STATUS);
        rig.steps(1).dueAbout(4, 9).dueAbout(5, 2).duePc(Rig.handler(9)).dueA(7, 988);
        rig.dueShortFrame(status & ~Rig.T, Rig.handler(e));
        rig.dueWord(994, status).dueLong(996, pc);
    }

    private static void notBehindFailures() {
        new Rig().status(TS).code(Rig.TEST, Rig.WORD, 0, 6, 0, 701).steps(1).dueException(3).dueStatus(Rig.S);
        new Rig().status(TS).code(Rig.TEST, Rig.WORD, 0, 6, 0, -2).steps(1).dueException(2);
        new Rig().status(TS).pc(513).steps(1).dueException(3);
        new Rig().status(TS).raw(0xFFFF).steps(1).dueException(4);
        new Rig().status(Rig.T).code(Rig.OTHER, 0, 0, 0, 0).steps(1).dueException(8);
        new Rig().status(TS).a(7, 1028).code(Rig.TRAP, 0, 0, 0, 0).steps(1).dueAbout(4, 2).dueAbout(5, 2);
    }

    private static void notBehindAStop() {
        new Rig().status(TS).code(Rig.CONTROL, 0, 0, 0, 3, TS).steps(1).dueNoException().dueAbout(0, 1).dueStatus(TS);
    }

    private static void notBehindALevel() {
        Rig rig = new Rig().status(TS).raw(NOTHING);
        rig.x.comes(1);
        rig.steps(1).dueException(28).dueShortFrame(TS, 512).dueStatus(Rig.S | 0x400);
    }
}
