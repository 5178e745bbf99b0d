/** The timer, the line, their levels, and what the calls tell of them. */
public final class DevicesTest {
    private static final int OFF = Rig.S | 0x700;
    private static final int NOTHING = Rig.word(Rig.CONTROL, 0, 0, 0, 0);

    public static void main(String[] args) {
        timerCounts();
        timerOfZero();
        timerControl();
        timerLevel();
        masks();
        lineTakes();
        lineLoses();
        lineSends();
        lineIsBusy();
        sixteenAreKept();
        bothLevels();
        devicesRunWhileStopped();
        levelEndsStop();
        resetOfDevices();
        readThenWrite();
        Rig.end("DevicesTest");
    }

    /** The program writes D7's byte at a device's address, with the one step that it takes. */
    private static void write(Rig rig, int address, int value) {
        rig.d(7, value).memory(800, Rig.word(Rig.STORE, Rig.BYTE, 7, 6, 1)).longAt(802, address).pc(800).steps(1).duePc(806);
    }

    private static int read(Rig rig, int address) {
        rig.d(7, -1).memory(800, Rig.word(Rig.LOAD, Rig.BYTE, 7, 6, 1)).longAt(802, address).pc(800).steps(1).duePc(806);
        return rig.x.get(7) & 255;
    }

    private static void dueByte(Rig rig, int address, int want) {
        Rig.due("byte at " + address, read(rig, address), want);
    }

    /** A step that changes nothing but the devices. */
    private static void idle(Rig rig, int steps) {
        rig.memory(810, NOTHING);
        for (int i = 0; i < steps; i++) {
            rig.pc(810).steps(1).duePc(812);
        }
    }

    private static void timerCounts() {
        Rig rig = new Rig().status(OFF);
        idle(rig, 3);
        rig.dueAbout(3, 256);
        write(rig, 61440, 0x105);
        rig.dueAbout(3, 5);
        idle(rig, 2);
        rig.dueAbout(3, 5);
        write(rig, 61441, 1);
        rig.dueAbout(3, 5);
        dueByte(rig, 61440, 4);
        dueByte(rig, 61441, 1);
        idle(rig, 2);
        rig.dueAbout(3, 1);
        idle(rig, 1);
        rig.dueAbout(3, 5);
        dueByte(rig, 61441, 3);
        rig.dueAbout(3, 4);
        write(rig, 61440, 9);
        rig.dueAbout(3, 9);
        dueByte(rig, 61441, 3);
    }

    private static void timerOfZero() {
        Rig rig = new Rig().status(OFF);
        write(rig, 61440, 1);
        write(rig, 61440, 0);
        rig.dueAbout(3, 256);
        dueByte(rig, 61440, 0);
        write(rig, 61441, 1);
        idle(rig, 1);
        rig.dueAbout(3, 255);
        dueByte(rig, 61440, 254);
        Rig one = new Rig().status(OFF);
        write(one, 61440, 1);
        write(one, 61441, 1);
        idle(one, 1);
        one.dueAbout(3, 1);
        dueByte(one, 61441, 3);
        fullRound();
    }

    private static void fullRound() {
        fullRound(new FrameMachine());
        Rig rig = new Rig().status(OFF);
        write(rig, 61440, 5);
        rig.x.reset();
        fullRound(rig.x);
    }

    /** With a reload of 0 the timer is due behind 256 steps, and the count is 256 again. */
    private static void fullRound(FrameMachine x) {
        int[] words = {Rig.word(Rig.STORE, Rig.BYTE, 0, 6, 1), 0, 61441, Rig.word(Rig.BRANCH, 0, 0, 0, 0), 65534};
        for (int i = 0; i < words.length; i++) {
            x.poke(512 + 2 * i, words[i]);
        }
        x.poke(4 * 26 + 2, 700);
        x.set(0, 1);
        x.set(15, 1000);
        x.set(17, 512);
        x.status(Rig.S);
        x.run(1);
        for (int i = 0; i < 255; i++) {
            x.run(1);
        }
        Rig.due("about(3)", x.about(3), 1);
        Rig.due("about(5)", x.about(5), 0);
        x.run(1);
        Rig.due("about(3)", x.about(3), 256);
        Rig.due("about(4)", x.about(4), 26);
        Rig.due("PC", x.get(17), 700);
    }

    private static void timerControl() {
        Rig rig = new Rig().status(OFF);
        write(rig, 61440, 3);
        write(rig, 61441, 0xFD);
        idle(rig, 3);
        dueByte(rig, 61441, 3);
        write(rig, 61441, 0);
        dueByte(rig, 61441, 2);
        int count = rig.x.about(3);
        idle(rig, 5);
        rig.dueAbout(3, count);
        write(rig, 61441, 1);
        dueByte(rig, 61441, 3);
        write(rig, 61440, 100);
        write(rig, 61441, 3);
        dueByte(rig, 61441, 1);
        write(rig, 61441, 2);
        dueByte(rig, 61441, 0);
    }

    private static void timerLevel() {
        Rig rig = new Rig().status(Rig.S | 0x100 | Rig.C);
        write(rig, 61440, 2);
        write(rig, 61441, 1);
        idle(rig, 1);
        rig.status(Rig.S | 0x100 | Rig.C).pc(900).dueNoException().steps(1).dueException(26);
        rig.dueStatus(Rig.S | 0x200 | Rig.C).dueShortFrame(Rig.S | 0x100 | Rig.C, 900).dueA(7, 994);
    }

    /** A level must be above the mask. */
    private static void masks() {
        for (int mask = 0; mask < 8; mask++) {
            Rig line = new Rig().status(Rig.S | mask * 256).raw(NOTHING);
            line.x.comes(1);
            line.steps(1).dueAbout(4, mask < 4 ? 28 : 0).duePc(mask < 4 ? Rig.handler(28) : 514);
            line.dueStatus(Rig.S | (mask < 4 ? 4 : mask) * 256);
            Rig timer = new Rig().status(OFF);
            write(timer, 61440, 1);
            write(timer, 61441, 1);
            timer.memory(512, NOTHING).pc(512).status(Rig.S | mask * 256);
            timer.steps(1).dueAbout(4, mask < 2 ? 26 : 0).dueStatus(Rig.S | (mask < 2 ? 2 : mask) * 256);
        }
    }

    private static void lineTakes() {
        Rig rig = new Rig().status(OFF);
        dueByte(rig, 61442, 0);
        Rig.due("comes(200)", rig.x.comes(200) ? 1 : 0, 1);
        dueByte(rig, 61443, 5);
        dueByte(rig, 61442, 200);
        dueByte(rig, 61443, 4);
        dueByte(rig, 61442, 0);
        Rig.due("comes(0)", rig.x.comes(0) ? 1 : 0, 1);
        dueByte(rig, 61443, 5);
        dueByte(rig, 61442, 0);
        dueByte(rig, 61443, 4);
    }

    private static void lineLoses() {
        Rig rig = new Rig().status(OFF);
        rig.x.comes(10);
        Rig.due("comes(11)", rig.x.comes(11) ? 1 : 0, 0);
        dueByte(rig, 61443, 7);
        write(rig, 61443, 0xFD);
        dueByte(rig, 61443, 7);
        dueByte(rig, 61442, 10);
        dueByte(rig, 61443, 6);
        Rig.due("comes(12)", rig.x.comes(12) ? 1 : 0, 1);
        dueByte(rig, 61443, 7);
        write(rig, 61443, 2);
        dueByte(rig, 61443, 5);
    }

    private static void lineSends() {
        Rig rig = new Rig().status(OFF);
        write(rig, 61442, 0x1C8);
        dueByte(rig, 61443, 0);
        idle(rig, 6);
        rig.dueAbout(2, 0);
        Rig.due("gone(0)", rig.x.gone(0), FrameMachine.NONE);
        idle(rig, 1);
        rig.dueAbout(2, 1);
        Rig.due("gone(0)", rig.x.gone(0), 200);
        Rig.due("gone(1)", rig.x.gone(1), FrameMachine.NONE);
        dueByte(rig, 61443, 4);
        idle(rig, 9);
        rig.dueAbout(2, 1);
    }

    private static void lineIsBusy() {
        Rig rig = new Rig().status(OFF);
        write(rig, 61442, 1);
        idle(rig, 6);
        write(rig, 61442, 2);
        rig.dueAbout(2, 0);
        write(rig, 61442, 3);
        rig.dueAbout(2, 1);
        idle(rig, 7);
        rig.dueAbout(2, 1);
        idle(rig, 1);
        rig.dueAbout(2, 2);
        Rig.due("gone(0)", rig.x.gone(0), 3);
        Rig.due("gone(1)", rig.x.gone(1), 1);
    }

    private static void sixteenAreKept() {
        FrameMachine x = new FrameMachine();
        int[] words = {Rig.word(Rig.STORE, Rig.BYTE, 0, 2, 0), Rig.word(Rig.BRANCH, 0, 0, 0, 0), 65534};
        for (int i = 0; i < words.length; i++) {
            x.poke(512 + 2 * i, words[i]);
        }
        x.set(8, 61442);
        for (int i = 1; i <= 20; i++) {
            x.set(0, 100 + i);
            x.set(17, 512);
            x.run(1);
            x.run(8);
            Rig.due("about(2)", x.about(2), i);
            Rig.due("gone(0)", x.gone(0), 100 + i);
            Rig.due("gone(" + (i - 1) + ")", x.gone(i - 1), i <= 16 ? 101 : FrameMachine.NONE);
            Rig.due("gone(" + i + ")", x.gone(i), FrameMachine.NONE);
        }
        for (int i = 0; i < 16; i++) {
            Rig.due("gone(" + i + ")", x.gone(i), 120 - i);
        }
        Rig.due("gone(16)", x.gone(16), FrameMachine.NONE);
        Rig.due("gone(-1)", x.gone(-1), FrameMachine.NONE);
    }

    private static void bothLevels() {
        Rig rig = new Rig().status(OFF);
        write(rig, 61440, 1);
        write(rig, 61441, 1);
        idle(rig, 1);
        rig.x.comes(3);
        rig.status(Rig.S).pc(810).steps(1).dueException(28).dueStatus(Rig.S | 0x400);
        rig.memory(Rig.handler(28), NOTHING).steps(1).dueAbout(5, 1);
        rig.status(Rig.S | 0x100).steps(1).dueAbout(4, 28).dueAbout(5, 2);
        rig.status(OFF);
        dueByte(rig, 61442, 3);
        rig.status(Rig.S | 0x100).steps(1).dueAbout(4, 26).dueAbout(5, 3).dueStatus(Rig.S | 0x200);
    }

    private static void devicesRunWhileStopped() {
        Rig rig = new Rig().status(OFF);
        write(rig, 61440, 50);
        write(rig, 61441, 1);
        write(rig, 61442, 77);
        rig.memory(820, Rig.word(Rig.CONTROL, 0, 0, 0, 3)).memory(822, OFF).pc(820).steps(1).dueAbout(0, 1);
        rig.dueAbout(3, 48);
        Rig.due("run(6)", rig.x.run(6), 0);
        rig.dueAbout(3, 42).dueAbout(2, 0);
        Rig.due("run(1)", rig.x.run(1), 0);
        rig.dueAbout(2, 1).dueAbout(1, 11);
        rig.x.comes(5);
        Rig.due("run(1)", rig.x.run(1), 0);
        rig.dueAbout(0, 1);
    }

    private static void levelEndsStop() {
        Rig rig = new Rig().status(OFF);
        write(rig, 61440, 3);
        write(rig, 61441, 1);
        rig.memory(820, Rig.word(Rig.CONTROL, 0, 0, 0, 3)).memory(822, Rig.S | 0x100).pc(820).steps(1).dueAbout(0, 1);
        rig.memory(Rig.handler(26), NOTHING);
        Rig.due("run(4)", rig.x.run(4), 3);
        rig.dueAbout(0, 0).dueAbout(4, 26).dueAbout(5, 1).dueLong(996, 824).dueWord(994, Rig.S | 0x100);
    }

    private static void resetOfDevices() {
        Rig rig = new Rig().status(OFF);
        write(rig, 61442, 1);
        idle(rig, 8);
        write(rig, 61440, 3);
        write(rig, 61441, 1);
        write(rig, 61442, 2);
        idle(rig, 5);
        rig.x.comes(1);
        rig.x.comes(2);
        dueByte(rig, 61441, 3);
        int steps = rig.x.about(1);
        rig.x.reset();
        rig.dueAbout(3, 256).dueAbout(2, 1).dueAbout(1, steps).a(7, Rig.STACK);
        dueByte(rig, 61441, 0);
        dueByte(rig, 61443, 4);
        dueByte(rig, 61442, 0);
        idle(rig, 9);
        rig.dueAbout(2, 1).dueAbout(3, 256);
        Rig.due("gone(0)", rig.x.gone(0), 1);
        write(rig, 61441, 1);
        idle(rig, 1);
        rig.dueAbout(3, 255);
    }

    /** ADDTO on the line takes the byte that came and sends the sum. */
    private static void readThenWrite() {
        Rig rig = new Rig().status(OFF).d(1, 1);
        rig.x.comes(65);
        rig.code(Rig.ADDTO, Rig.BYTE, 1, 6, 1, 0, 61442).steps(1);
        dueByte(rig, 61443, 0);
        idle(rig, 7);
        Rig.due("gone(0)", rig.x.gone(0), 66);
    }
}
