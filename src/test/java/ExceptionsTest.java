/** Frames of both kinds, exceptions that follow, halts, and what about tells of them. */
public final class ExceptionsTest {
    private static final int NOTHING = Rig.word(Rig.CONTROL, 0, 0, 0, 0);

    public static void main(String[] args) {
        shortFrame();
        longFrame();
        firstWordThatCouldNotBeRead();
        vectorsAreLongs();
        oneFollowsAnother();
        oneFollowsExceptionFour();
        oneFollowsALevel();
        oneFollowsATrace();
        halts();
        haltsBehindAnother();
        haltedDoesNothing();
        exceptionInUserMode();
        Rig.end("ExceptionsTest");
    }

    private static void shortFrame() {
        Rig rig = new Rig().status(Rig.S | 0x31F).code(Rig.TRAP, 0, 0, 0, 3).steps(1);
        rig.dueException(35).dueA(7, 994).dueShortFrame(Rig.S | 0x31F, 514).dueStatus(Rig.S | 0x31F);
        new Rig().status(0).raw(0xFFFF).steps(1).dueException(4).dueA(7, 994).dueShortFrame(0, 512);
    }

    private static void longFrame() {
        int word = Rig.word(Rig.LOAD, Rig.LONG, 0, 5, 3);
        Rig rig = new Rig().status(Rig.S | 0x31F).a(3, 0x12345678).code(Rig.LOAD, Rig.LONG, 0, 5, 3, 2).steps(1);
        rig.dueException(2).dueA(7, 986).dueLongFrame(1, 0x1234567A, word, Rig.S | 0x31F, 516).dueStatus(Rig.S | 0x31F);
    }

    private static void firstWordThatCouldNotBeRead() {
        new Rig().raw(NOTHING).steps(1).pc(513).steps(1).dueException(3).dueLongFrame(1, 513, 0, Rig.S, 513);
        new Rig().raw(NOTHING).steps(1).pc(1024).steps(1).dueException(2).dueLongFrame(1, 1024, 0, Rig.S, 1024);
        new Rig().pc(61440).steps(1).dueException(2).dueLongFrame(1, 61440, 0, Rig.S, 61440);
        new Rig().pc(-2).steps(1).dueException(2).dueLongFrame(1, -2, 0, Rig.S, -2);
    }

    private static void vectorsAreLongs() {
        new Rig().longAt(4 * 33, 0xABCDEF01).code(Rig.TRAP, 0, 0, 0, 1).steps(1).duePc(0xABCDEF01).dueAbout(5, 1);
    }

    /** The stack is just above memory: the first push fails, the next ones do not. */
    private static void oneFollowsAnother() {
        int word = Rig.word(Rig.TRAP, 0, 0, 0, 0);
        Rig rig = new Rig().status(0x21F).raw(word);
        rig.x.set(Rig.OTHER_STACK, 1028);
        rig.steps(1).dueAbout(4, 2).dueAbout(5, 2).dueAbout(0, 0).duePc(Rig.handler(2)).dueA(7, 1010);
        rig.dueLongFrame(0, 1024, word, Rig.S | 0x21F, 514);
        Rig across = new Rig().a(7, 1026).raw(word).steps(1).dueAbout(4, 2).dueAbout(5, 2).dueA(7, 1008);
        across.dueLongFrame(0, 1022, word, Rig.S, 514);
    }

    /** Only the PC that exception 4 itself pushes is that of the first word. */
    private static void oneFollowsExceptionFour() {
        Rig rig = new Rig().a(7, 1028).raw(0xFFFF).steps(1).dueAbout(4, 2).dueAbout(5, 2).dueA(7, 1010);
        rig.dueLongFrame(0, 1024, 0xFFFF, Rig.S, 514);
    }

    private static void oneFollowsALevel() {
        Rig rig = new Rig().raw(NOTHING).steps(1).status(Rig.T | Rig.S | 0x100).a(7, 1028);
        rig.x.comes(7);
        rig.steps(1).dueAbout(4, 2).dueAbout(5, 2).duePc(Rig.handler(2)).dueStatus(Rig.S | 0x400);
        rig.dueLongFrame(0, 1024, 0, Rig.S | 0x400, 514);
    }

    private static void oneFollowsATrace() {
        Rig rig = new Rig().status(Rig.T | Rig.S).a(7, 1028).raw(NOTHING).steps(1);
        rig.dueAbout(4, 2).dueAbout(5, 2).duePc(Rig.handler(2)).dueLongFrame(0, 1024, NOTHING, Rig.S, 514);
    }

    private static void halts() {
        Rig odd = new Rig().status(Rig.T | 0x11F).pc(513);
        odd.x.set(Rig.OTHER_STACK, 801);
        odd.steps(1).dueAbout(0, 2).dueAbout(4, 3).dueAbout(5, 2).dueA(7, 797).dueStatus(Rig.S | 0x11F).duePc(513);
        Rig other = new Rig().pc(513).a(7, 0).steps(1).dueAbout(0, 2).dueAbout(4, 2).dueAbout(5, 2);
        other.dueA(7, -4);
        Rig late = new Rig().pc(513).a(7, 12).steps(1).dueAbout(0, 2).dueAbout(4, 2).dueAbout(5, 2).dueA(7, -2);
        late.dueLong(8, 513).dueWord(6, Rig.S).dueWord(4, 0).dueLong(0, 513);
    }

    /** An exception, the one that follows, and the one that halts: three in all. */
    private static void haltsBehindAnother() {
        Rig rig = new Rig().a(7, 901).code(Rig.TRAP, 0, 0, 0, 0).steps(1);
        rig.dueAbout(0, 2).dueAbout(4, 3).dueAbout(5, 3).dueA(7, 893).duePc(514);
        Rig level = new Rig().a(7, 2).raw(NOTHING);
        level.x.comes(1);
        level.steps(1).dueAbout(0, 2).dueAbout(4, 2).dueAbout(5, 3).dueA(7, -6).dueStatus(Rig.S | 0x400).duePc(512);
        Rig trace = new Rig().status(Rig.S | Rig.T).a(7, 901).code(Rig.TRAP, 0, 0, 0, 0).steps(1);
        trace.dueAbout(0, 2).dueAbout(5, 3);
    }

    private static void haltedDoesNothing() {
        Rig rig = new Rig().code(Rig.STORE, Rig.BYTE, 1, 6, 1, 0, 61441).code(Rig.STORE, Rig.BYTE, 0, 6, 1, 0, 61442)
            .d(0, 5).d(1, 1).steps(2).pc(513).a(7, 1).dueAbout(3, 255).steps(1).dueAbout(0, 2).dueAbout(3, 254);
        rig.x.comes(9);
        rig.status(Rig.S).a(7, 900).pc(512);
        Rig.due("run(8)", rig.x.run(8), 0);
        Rig.due("run(8)", rig.x.run(8), 0);
        rig.dueAbout(1, 19).dueAbout(2, 0).dueAbout(3, 254).duePc(512).dueAbout(0, 2).dueAbout(5, 2);
        rig.x.reset();
        rig.dueAbout(0, 0).dueAbout(3, 256).dueAbout(5, 2);
    }

    private static void exceptionInUserMode() {
        Rig rig = new Rig().status(0x11).code(Rig.TRAP, 0, 0, 0, 0).steps(1).dueA(7, 994);
        Rig.due("OTHER is the user's", rig.x.get(Rig.OTHER_STACK), Rig.USER_STACK);
        rig.memory(Rig.handler(32), Rig.word(Rig.CONTROL, 0, 0, 0, 2)).steps(1).duePc(514).dueStatus(0x11);
        rig.dueA(7, Rig.USER_STACK);
        Rig.due("OTHER is the supervisor's", rig.x.get(Rig.OTHER_STACK), Rig.STACK);
    }
}
