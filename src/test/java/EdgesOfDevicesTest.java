/** Terms, the timer and the line, at their edges: a test of its own for each sentence that names one. */
public final class EdgesOfDevicesTest {
    private static final int COUNT = 61440, CONTROL = 61441, LINE = 61442, STATE = 61443;
    private static final int NOTHING = Rig.word(Rig.CONTROL, 0, 0, 0, 0);

    public static void main(String[] args) {
        reload();
        control();
        counting();
        timerLevel();
        cameAndLost();
        sending();
        lineLevel();
        Rig.end("EdgesOfDevicesTest");
    }

    /** A machine that masks every level. */
    private static Rig masked() {
        return new Rig().status(Rig.S | 0x700);
    }

    /** In one step D7's low byte is written at a device. */
    private static Rig write(Rig rig, int address, int value) {
        return rig.d(7, value).memory(800, Rig.word(Rig.STORE, Rig.BYTE, 7, 6, 1)).longAt(802, address).pc(800).steps(1).duePc(806);
    }

    /** In one step a device is read. */
    private static Rig dueByte(Rig rig, int address, int want) {
        return rig.d(7, -1).memory(800, Rig.word(Rig.LOAD, Rig.BYTE, 7, 6, 1)).longAt(802, address).pc(800).steps(1)
            .duePc(806).dueD(7, 0xFFFFFF00 | want);
    }

    private static Rig idle(Rig rig, int steps) {
        for (int i = 0; i < steps; i++) {
            rig.memory(810, NOTHING).pc(810).steps(1).duePc(812);
        }
        return rig;
    }

    private static Rig timer(int reload) {
        return write(write(masked(), COUNT, reload), CONTROL, 1);
    }

    private static void reload() {
        Rig.sentence("61440: a byte, the RELOAD (0 counts as 256; writing sets the count, too)", () -> {
            write(write(masked(), COUNT, 7), COUNT, 0).dueAbout(3, 256);
            write(masked(), COUNT, 1).dueAbout(3, 1);
            write(masked(), COUNT, 255).dueAbout(3, 255);
            write(masked(), COUNT, 256).dueAbout(3, 256);
            write(masked(), COUNT, 257).dueAbout(3, 1);
            write(idle(timer(9), 4), COUNT, 200).dueAbout(3, 200);
        });
        Rig.sentence("(reading gives the count modulo 256)", () -> {
            dueByte(masked(), COUNT, 0);
            dueByte(write(masked(), COUNT, 0), COUNT, 0);
            dueByte(write(masked(), COUNT, 255), COUNT, 255);
            dueByte(write(masked(), COUNT, 1), COUNT, 1);
            dueByte(timer(0), COUNT, 255);
            dueByte(idle(timer(9), 3), COUNT, 5);
        });
        Rig.sentence("writing sets the count, too (and leaves whether it runs and is due)", () -> {
            Rig due = write(idle(timer(1), 1), COUNT, 50);
            dueByte(due, CONTROL, 3);
            dueByte(write(masked(), COUNT, 1), CONTROL, 0);
        });
    }

    private static void control() {
        Rig.sentence("61441: bit 0: it RUNS, bit 1: it is DUE", () -> {
            dueByte(masked(), CONTROL, 0);
            dueByte(timer(100), CONTROL, 1);
            dueByte(idle(timer(1), 1), CONTROL, 3);
            dueByte(write(idle(timer(1), 1), CONTROL, 0), CONTROL, 2);
        });
        Rig.sentence("writing sets whether it runs (bit 0 and no other)", () -> {
            write(timer(100), CONTROL, 0xFE).dueAbout(3, 99);
            Rig ended = write(timer(100), CONTROL, 0xFC);
            dueByte(ended, CONTROL, 0).dueAbout(3, 99);
            Rig begun = write(masked(), CONTROL, 0xFD);
            dueByte(begun, CONTROL, 1).dueAbout(3, 255);
        });
        Rig.sentence("and bit 1 ends being due", () -> {
            Rig one = write(idle(timer(2), 2), CONTROL, 2);
            dueByte(one, CONTROL, 0);
            Rig both = write(write(idle(timer(1), 1), COUNT, 90), CONTROL, 3);
            dueByte(both, CONTROL, 1);
        });
        Rig.sentence("and bit 1 ends being due (0 does not end it; 1 does not begin it)", () -> {
            Rig kept = write(idle(timer(1), 1), CONTROL, 0xFD);
            dueByte(kept, CONTROL, 3);
            Rig never = write(masked(), CONTROL, 2);
            dueByte(never, CONTROL, 0);
        });
    }

    private static void counting() {
        Rig.sentence("In a step, when it runs: the count falls by 1", () -> {
            idle(masked(), 5).dueAbout(3, 256);
            timer(9).dueAbout(3, 9);
            idle(timer(9), 1).dueAbout(3, 8);
            idle(write(timer(9), CONTROL, 0), 5).dueAbout(3, 8);
        });
        Rig.sentence("at 0 it is due, and the count is the reload", () -> {
            idle(timer(3), 2).dueAbout(3, 1);
            dueByte(idle(timer(3), 1), CONTROL, 1).dueAbout(3, 1);
            idle(timer(3), 3).dueAbout(3, 3);
            dueByte(idle(timer(3), 2), CONTROL, 3).dueAbout(3, 3);
            idle(timer(3), 6).dueAbout(3, 3);
            dueByte(timer(1), CONTROL, 3).dueAbout(3, 1);
            idle(timer(1), 4).dueAbout(3, 1);
        });
        Rig.sentence("(0 counts as 256): the 256th step behind it is the one in which it is due", () -> {
            FrameMachine x = new FrameMachine();
            int[] words = {Rig.word(Rig.STORE, Rig.BYTE, 0, 6, 1), 0, CONTROL, Rig.word(Rig.BRANCH, 0, 0, 0, 0), 65534};
            for (int i = 0; i < words.length; i++) {
                x.poke(512 + 2 * i, words[i]);
            }
            x.set(0, 1);
            x.set(15, 1000);
            x.set(17, 512);
            x.status(Rig.S);
            x.run(1);
            for (int i = 0; i < 31; i++) {
                Rig.due("run(8)", x.run(8), 8);
            }
            Rig.due("run(7)", x.run(7), 7);
            Rig.due("about(3)", x.about(3), 1);
            Rig.due("about(5)", x.about(5), 0);
            Rig.due("run(1)", x.run(1), 1);
            Rig.due("about(3)", x.about(3), 256);
            Rig.due("about(4)", x.about(4), 26);
        });
    }

    private static void timerLevel() {
        Rig.sentence("LEVEL 2 while it is due", () -> {
            idle(timer(3), 2).status(Rig.S).pc(700).steps(1).dueException(26);
            Rig again = timer(1).status(Rig.S).pc(700).steps(1).dueAbout(5, 1).status(Rig.S).steps(1).dueAbout(5, 2);
            again.status(Rig.S | 0x100).steps(1).dueAbout(5, 3).dueAbout(4, 26);
            Rig ended = write(write(idle(timer(1), 1), COUNT, 90), CONTROL, 3).status(Rig.S);
            idle(ended, 3).dueNoException();
            Rig notRunning = write(idle(timer(1), 1), CONTROL, 0).status(Rig.S).pc(700).steps(1);
            notRunning.dueException(26);
        });
    }

    private static void cameAndLost() {
        Rig.sentence("61442: reading takes the byte that CAME (0 when there is none)", () -> {
            Rig rig = dueByte(masked(), LINE, 0);
            rig.x.comes(255);
            dueByte(dueByte(dueByte(rig, LINE, 255), LINE, 0), STATE, 4);
            Rig.due("comes(0)", rig.x.comes(0), true);
            dueByte(dueByte(rig, STATE, 5), LINE, 0);
            Rig.due("comes(1)", rig.x.comes(1), true);
        });
        Rig.sentence("61443: bit 0: one came", () -> {
            Rig rig = dueByte(masked(), STATE, 4);
            rig.x.comes(0);
            dueByte(dueByte(rig, STATE, 5), STATE, 5);
        });
        Rig.sentence("bit 1: one was LOST", () -> {
            Rig rig = masked();
            rig.x.comes(1);
            rig.x.comes(2);
            dueByte(dueByte(dueByte(dueByte(rig, STATE, 7), LINE, 1), STATE, 6), LINE, 0);
            Rig.due("comes(3)", rig.x.comes(3), true);
            dueByte(dueByte(rig, STATE, 7), LINE, 3);
        });
        Rig.sentence("writing bit 1 ends lost", () -> {
            Rig rig = masked();
            rig.x.comes(1);
            rig.x.comes(2);
            dueByte(write(dueByte(write(rig, STATE, 0xFD), STATE, 7), STATE, 2), STATE, 5);
            dueByte(write(masked(), STATE, 2), STATE, 4);
            dueByte(write(masked(), STATE, 255), STATE, 4);
            Rig.due("comes(3)", rig.x.comes(3), false);
            dueByte(dueByte(rig, STATE, 7), LINE, 1);
        });
    }

    private static void sending() {
        Rig.sentence("writing sends a byte", () -> {
            for (int b : new int[] {0, 1, 255, 256, 511}) {
                Rig rig = idle(write(masked(), LINE, b), 8).dueAbout(2, 1);
                Rig.due("gone(0)", rig.x.gone(0), b & 255);
                Rig.due("gone(1)", rig.x.gone(1), FrameMachine.NONE);
            }
        });
        Rig.sentence("writing sends a byte (and does not take the one that came)", () -> {
            Rig rig = masked();
            rig.x.comes(1);
            dueByte(dueByte(write(rig, LINE, 2), STATE, 1), LINE, 1);
        });
        Rig.sentence("if none is being sent", () -> {
            Rig rig = write(write(masked(), LINE, 1), LINE, 2);
            idle(rig, 7).dueAbout(2, 1);
            Rig.due("gone(0)", rig.x.gone(0), 1);
            idle(rig, 9).dueAbout(2, 1);
            Rig last = write(idle(write(masked(), LINE, 1), 6), LINE, 2).dueAbout(2, 0);
            idle(last, 1).dueAbout(2, 1);
            idle(last, 9).dueAbout(2, 1);
            Rig next = write(idle(write(masked(), LINE, 1), 7), LINE, 2).dueAbout(2, 1);
            idle(next, 7).dueAbout(2, 1);
            idle(next, 1).dueAbout(2, 2);
            Rig.due("gone(0)", next.x.gone(0), 2);
            Rig.due("gone(1)", next.x.gone(1), 1);
        });
        Rig.sentence("bit 2: none is being sent", () -> {
            dueByte(masked(), STATE, 4);
            dueByte(write(masked(), LINE, 0), STATE, 0);
            dueByte(idle(write(masked(), LINE, 0), 6), STATE, 0);
            dueByte(idle(write(masked(), LINE, 0), 7), STATE, 4);
        });
        Rig.sentence("A byte is being sent for 8 steps (in the eighth behind this it has gone)", () -> {
            Rig rig = idle(write(masked(), LINE, 9), 7).dueAbout(2, 0);
            Rig.due("gone(0)", rig.x.gone(0), FrameMachine.NONE);
            idle(rig, 1).dueAbout(2, 1);
            Rig.due("gone(0)", rig.x.gone(0), 9);
            Rig stopped = write(masked(), LINE, 9).memory(820, Rig.word(Rig.CONTROL, 0, 0, 0, 3)).memory(822, 0x2700).pc(820)
                .steps(1).run(6, 0).dueAbout(2, 0).run(1, 0).dueAbout(2, 1);
            Rig.due("gone(0)", stopped.x.gone(0), 9);
        });
    }

    private static void lineLevel() {
        Rig.sentence("LEVEL 4 while one came", () -> {
            Rig rig = new Rig();
            rig.x.comes(1);
            rig.steps(1).dueException(28).status(Rig.S | 0x300).steps(1).dueAbout(5, 2).status(Rig.S | 0x400);
            dueByte(rig, LINE, 1).status(Rig.S);
            idle(rig, 3).dueAbout(5, 2);
            Rig lost = masked();
            lost.x.comes(1);
            lost.x.comes(2);
            dueByte(lost, LINE, 1).status(Rig.S);
            idle(lost, 2).dueNoException();
        });
    }
}
