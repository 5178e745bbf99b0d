/** Where an operand is, what becomes of Aq and PC, which operands an instruction takes, and accesses. */
public final class OperandsTest {
    private static final int ANY = 0, DATA = 1, ALTERABLE = 2, PLACES = 3, NO_OPERAND = 4;

    /** By op: the kind of operand, and the sizes that are allowed (bit s for size s). */
    private static final int[][] OPS = {
        {ANY, 7}, {ALTERABLE, 7}, {ANY, 6}, {ANY, 7}, {ANY, 7}, {ANY, 7}, {DATA, 7}, {DATA, 7}, {DATA, 7},
        {ALTERABLE, 7}, {ALTERABLE, 7}, {ANY, 6}, {PLACES, 4}, {ALTERABLE, 7}, {DATA, 7}, {ALTERABLE, 7},
        {ALTERABLE, 7}, {NO_OPERAND, 7}, {DATA, 2}, {DATA, 2}, {DATA, 2}, {NO_OPERAND, 15}, {PLACES, 4}, {PLACES, 4},
        {NO_OPERAND, 15}, {NO_OPERAND, 15}, {DATA, 2}, {ALTERABLE, 2}, {NO_OPERAND, 15}, {DATA, 2}, {ANY, 0}, {ANY, 0}
    };

    public static void main(String[] args) {
        registers();
        places();
        growing();
        falling();
        values();
        longWordsOfAnInstruction();
        everyFirstWord();
        whereAnAccessFails();
        whatStaysDone();
        Rig.end("OperandsTest");
    }

    private static void registers() {
        new Rig().d(1, 0x11223344).d(2, 0xAABBCCDD).code(Rig.LOAD, Rig.BYTE, 1, 0, 2).steps(1)
            .dueD(1, 0x112233DD).dueD(2, 0xAABBCCDD);
        new Rig().d(1, 0x11223344).d(2, 0xAABBCCDD).code(Rig.LOAD, Rig.WORD, 1, 0, 2).steps(1).dueD(1, 0x1122CCDD);
        new Rig().d(1, 0x11223344).d(2, 0xAABBCCDD).code(Rig.LOAD, Rig.LONG, 1, 0, 2).steps(1).dueD(1, 0xAABBCCDD);
        new Rig().d(1, 0x11223344).a(2, 0xAABBCCDD).code(Rig.LOAD, Rig.WORD, 1, 1, 2).steps(1).dueD(1, 0x1122CCDD);
        new Rig().a(2, 0xAABBCCDD).code(Rig.LOAD, Rig.LONG, 1, 1, 2).steps(1).dueD(1, 0xAABBCCDD);
        new Rig().code(Rig.LOAD, Rig.LONG, 1, 1, 7).steps(1).dueD(1, Rig.STACK);
        new Rig().status(0).code(Rig.LOAD, Rig.LONG, 1, 1, 7).steps(1).dueD(1, Rig.USER_STACK);
    }

    private static void places() {
        Rig at2 = new Rig().longAt(700, 0x12345678).a(3, 700).code(Rig.LOAD, Rig.LONG, 0, 2, 3);
        at2.steps(1).dueD(0, 0x12345678).dueA(3, 700).duePc(514);
        Rig byte2 = new Rig().longAt(700, 0x12345678).a(3, 701).code(Rig.LOAD, Rig.BYTE, 0, 2, 3);
        byte2.steps(1).dueD(0, 0x34);
        Rig up5 = new Rig().longAt(700, 0x12345678).a(3, 690).code(Rig.LOAD, Rig.WORD, 0, 5, 3, 12);
        up5.steps(1).dueD(0, 0x5678).dueA(3, 690).duePc(516);
        Rig down5 = new Rig().longAt(700, 0x12345678).a(3, 710).code(Rig.LOAD, Rig.WORD, 0, 5, 3, -10);
        down5.steps(1).dueD(0, 0x1234);
        Rig wrap5 = new Rig().memory(10, 77).a(3, -20).code(Rig.LOAD, Rig.WORD, 0, 5, 3, 30);
        wrap5.steps(1).dueD(0, 77);
        Rig shortPlace = new Rig().memory(700, 77).code(Rig.LOAD, Rig.WORD, 0, 6, 0, 700);
        shortPlace.steps(1).dueD(0, 77).duePc(516);
        Rig longPlace = new Rig().memory(700, 77).code(Rig.LOAD, Rig.WORD, 0, 6, 1, 0, 700);
        longPlace.steps(1).dueD(0, 77).duePc(518);
        Rig behind = new Rig().memory(700, 77).code(Rig.LOAD, Rig.WORD, 0, 6, 3, 700 - 514);
        behind.steps(1).dueD(0, 77).duePc(516);
        Rig before = new Rig().memory(400, 78).code(Rig.LOAD, Rig.WORD, 0, 6, 3, 400 - 514);
        before.steps(1).dueD(0, 78);
        new Rig().d(0, 0x1234).code(Rig.STORE, Rig.BYTE, 0, 6, 0, 701).steps(1).dueWord(700, 0x34);
        new Rig().d(0, 0x12345678).code(Rig.STORE, Rig.LONG, 0, 6, 0, 1020).steps(1).dueLong(1020, 0x12345678);
        new Rig().d(0, 0x1278).memory(1022, 0x5555).code(Rig.STORE, Rig.BYTE, 0, 6, 0, 1023).steps(1).dueWord(1022, 0x5578);
    }

    private static void growing() {
        int[] by = {1, 2, 4};
        for (int size = 0; size < 3; size++) {
            Rig rig = new Rig().longAt(700, 0x12345678).a(3, 700).code(Rig.LOAD, size, 0, 3, 3);
            rig.steps(1).dueA(3, 700 + by[size]).dueD(0, size == 0 ? 0x12 : size == 1 ? 0x1234 : 0x12345678);
        }
        new Rig().longAt(700, 0x12345678).a(7, 700).code(Rig.LOAD, Rig.BYTE, 0, 3, 7).steps(1).dueA(7, 702).dueD(0, 0x12);
        new Rig().memory(700, 0xFFFE).a(3, 700).code(Rig.LOADA, Rig.WORD, 3, 3, 3).steps(1).dueA(3, -2);
        Rig twice = new Rig().memory(700, 5).a(3, 700).d(1, 3).code(Rig.ADDTO, Rig.WORD, 1, 3, 3);
        twice.steps(1).dueWord(700, 8).dueWord(702, 0).dueA(3, 702);
        Rig adda = new Rig().memory(700, 5).a(3, 700).code(Rig.ADDA, Rig.WORD, 3, 3, 3);
        adda.steps(1).dueA(3, 707);
    }

    private static void falling() {
        int[] by = {1, 2, 4};
        for (int size = 0; size < 3; size++) {
            Rig rig = new Rig().longAt(696, 0x12345678).a(3, 700).code(Rig.LOAD, size, 0, 4, 3);
            rig.steps(1).dueA(3, 700 - by[size]).dueD(0, size == 0 ? 0x78 : size == 1 ? 0x5678 : 0x12345678);
        }
        new Rig().longAt(696, 0x12345678).a(7, 700).code(Rig.LOAD, Rig.BYTE, 0, 4, 7).steps(1).dueA(7, 698).dueD(0, 0x56);
        Rig twice = new Rig().memory(698, 5).a(3, 700).d(1, 3).code(Rig.SUBTO, Rig.WORD, 1, 4, 3);
        twice.steps(1).dueWord(698, 2).dueWord(696, 0).dueA(3, 698);
    }

    private static void values() {
        new Rig().d(0, -1).code(Rig.LOAD, Rig.BYTE, 0, 6, 2, 0x1234).steps(1).dueD(0, 0xFFFFFF34).duePc(516);
        new Rig().d(0, -1).code(Rig.LOAD, Rig.WORD, 0, 6, 2, 0x1234).steps(1).dueD(0, 0xFFFF1234).duePc(516);
        new Rig().d(0, -1).code(Rig.LOAD, Rig.LONG, 0, 6, 2, 0x1234, 0x8678).steps(1).dueD(0, 0x12348678).duePc(518);
    }

    /** They are read one by one, so that PC is behind the first when the second fails. */
    private static void longWordsOfAnInstruction() {
        int word = Rig.word(Rig.LOAD, Rig.LONG, 0, 6, 2);
        Rig value = new Rig().memory(1020, word).memory(1022, 5).pc(1020).a(7, 800);
        value.steps(1).dueException(2).dueLongFrame(1, 1024, word, Rig.S, 1024).dueD(0, 0);
        int place = Rig.word(Rig.LOAD, Rig.LONG, 0, 6, 1);
        new Rig().memory(1022, place).pc(1022).a(7, 800).steps(1)
            .dueException(2).dueLongFrame(1, 1024, place, Rig.S, 1024);
    }

    /** Exception 4 for each first word that is none, and for no other, whatever the rest of it is. */
    private static void everyFirstWord() {
        for (int word = 0; word < 65536; word++) {
            Rig rig = new Rig().raw(word);
            rig.x.run(1);
            Rig.due("exception 4 of " + word, rig.x.about(4) == 4 ? 1 : 0, isNone(word) ? 1 : 0);
            if (rig.x.about(4) == 4) {
                rig.dueShortFrame(Rig.S, 512);
            }
        }
    }

    private static boolean isNone(int word) {
        int op = word / 2048;
        int size = word / 512 % 4;
        int r = word / 64 % 8;
        int m = word / 8 % 8;
        int q = word % 8;
        if ((OPS[op][1] >> size & 1) == 0) {
            return true;
        }
        if (op == Rig.SHIFT) {
            return m > 5;
        }
        if (op == Rig.BRANCH) {
            return size * 8 + r >= 16;
        }
        if (op == Rig.CONTROL) {
            return q >= 5;
        }
        boolean any = m < 6 || m == 6 && q < 4;
        switch (OPS[op][0]) {
            case ANY: return !any || size == 0 && m == 1;
            case DATA: return !any || m == 1;
            case ALTERABLE: return !any || m == 1 || m == 6 && q > 1;
            case PLACES: return !(m == 2 || m == 5 || m == 6 && q < 4 && q != 2);
            default: return false;
        }
    }

    private static void whereAnAccessFails() {
        int[][] cases = {
            {Rig.BYTE, 1023, 0}, {Rig.BYTE, 1024, 2}, {Rig.WORD, 1022, 0}, {Rig.WORD, 1023, 3}, {Rig.WORD, 1024, 2},
            {Rig.LONG, 1020, 0}, {Rig.LONG, 1021, 3}, {Rig.LONG, 1022, 2}, {Rig.LONG, 1024, 2}, {Rig.BYTE, -1, 2},
            {Rig.WORD, -2, 2}, {Rig.WORD, -1, 3}, {Rig.LONG, -2, 2}, {Rig.LONG, -4, 2}, {Rig.BYTE, 61439, 2},
            {Rig.BYTE, 61440, 0}, {Rig.BYTE, 61441, 0}, {Rig.BYTE, 61442, 0}, {Rig.BYTE, 61443, 0}, {Rig.BYTE, 61444, 2},
            {Rig.WORD, 61440, 2}, {Rig.WORD, 61441, 3}, {Rig.WORD, 61442, 2}, {Rig.LONG, 61440, 2},
            {Rig.BYTE, 61440 - 65536, 2}, {Rig.BYTE, Integer.MIN_VALUE, 2}, {Rig.WORD, Integer.MAX_VALUE, 3},
            {Rig.BYTE, 0, 0}, {Rig.LONG, 0, 0}
        };
        for (int[] one : cases) {
            int reading = Rig.word(Rig.LOAD, one[0], 0, 2, 3);
            int writing = Rig.word(Rig.STORE, one[0], 0, 2, 3);
            Rig reader = new Rig().a(3, one[1]).raw(reading).steps(1).dueAbout(4, one[2]);
            Rig writer = new Rig().a(3, one[1]).raw(writing).steps(1).dueAbout(4, one[2]);
            if (one[2] != 0) {
                reader.dueException(one[2]).dueLongFrame(1, one[1], reading, Rig.S, 514);
                writer.dueException(one[2]).dueLongFrame(0, one[1], writing, Rig.S, 514);
            }
        }
    }

    private static void whatStaysDone() {
        Rig grown = new Rig().a(3, 701).d(0, 7).status(Rig.S | 31).code(Rig.LOAD, Rig.WORD, 0, 3, 3);
        grown.steps(1).dueException(3).dueA(3, 703).dueD(0, 7).dueFlags(31);
        Rig fallen = new Rig().a(3, 701).status(Rig.S | 27).code(Rig.CLEAR, Rig.LONG, 0, 4, 3);
        fallen.steps(1).dueException(3).dueA(3, 697).dueFlags(27).dueWord(696, 0);
        Rig stack = new Rig().a(7, 1024).code(Rig.TEST, Rig.WORD, 0, 3, 7);
        stack.steps(1).dueAbout(4, 2).dueAbout(0, 2).dueAbout(5, 2).dueA(7, 1022);
        Rig stored = new Rig().a(3, 1024).d(0, 0).status(Rig.S | 27).code(Rig.STORE, Rig.WORD, 0, 2, 3);
        stored.steps(1).dueException(2).dueFlags(27);
        Rig half = new Rig().a(3, 1022).memory(1022, 0x5555).d(0, -1).code(Rig.STORE, Rig.LONG, 0, 2, 3);
        half.steps(1).dueException(2).dueWord(1022, 0x5555);
    }
}
