/** Terms, from MEMORY to KINDS, at their edges: a test of its own for each sentence that names one. */
public final class EdgesOfOperandsTest {
    private static final int MIN = Integer.MIN_VALUE;
    private static final int MAX = Integer.MAX_VALUE;
    private static final int ALL = 31;
    private static final int NOTHING = Rig.word(Rig.CONTROL, 0, 0, 0, 0);

    public static void main(String[] args) {
        memoryAndDevices();
        registersAndStatus();
        accesses();
        wordsOfAnInstruction();
        whatStaysDone();
        growingAndFalling();
        wordsWithSign();
        valuesThemselves();
        noOperands();
        kinds();
        Rig.end("EdgesOfOperandsTest");
    }

    /** Reading and writing so many bytes at an address end in this exception; 0 for none. */
    private static void access(int size, int address, int exception) {
        int load = Rig.word(Rig.LOAD, size, 0, 2, 3);
        int store = Rig.word(Rig.STORE, size, 0, 2, 3);
        Rig reads = new Rig().status(Rig.S | 0x700).a(3, address).raw(load).steps(1).dueAbout(4, exception);
        Rig writes = new Rig().status(Rig.S | 0x700).a(3, address).raw(store).steps(1).dueAbout(4, exception);
        if (exception == 0) {
            reads.duePc(514);
            writes.duePc(514);
            return;
        }
        reads.dueException(exception).dueLongFrame(1, address, load, Rig.S | 0x700, 514);
        writes.dueException(exception).dueLongFrame(0, address, store, Rig.S | 0x700, 514);
    }

    private static void memoryAndDevices() {
        Rig.sentence("MEMORY has 1024 bytes at addresses 0 .. 1023", () -> {
            access(Rig.BYTE, 0, 0);
            access(Rig.BYTE, 1023, 0);
            access(Rig.BYTE, 1024, 2);
            access(Rig.BYTE, -1, 2);
            new Rig().memory(1022, 0x1234).code(Rig.LOAD, Rig.BYTE, 0, 6, 0, 1023).steps(1).dueD(0, 0x34);
            new Rig().memory(0, 0x1234).code(Rig.LOAD, Rig.BYTE, 0, 6, 0, 0).steps(1).dueD(0, 0x12);
        });
        Rig.sentence("the bytes of a word or long (two, four bytes) lie with the highest first", () -> {
            Rig rig = new Rig().d(0, 0x12345678).code(Rig.STORE, Rig.LONG, 0, 6, 0, 1020)
                .code(Rig.STORE, Rig.WORD, 0, 6, 0, 700).steps(2);
            rig.dueWord(1020, 0x1234).dueWord(1022, 0x5678).dueWord(700, 0x5678).dueWord(702, 0);
            new Rig().longAt(1020, 0x12345678).code(Rig.LOAD, Rig.BYTE, 0, 6, 0, 1020).steps(1).dueD(0, 0x12);
            new Rig().longAt(1020, 0x12345678).code(Rig.LOAD, Rig.BYTE, 0, 6, 0, 1023).steps(1).dueD(0, 0x78);
            new Rig().longAt(1020, 0x12345678).code(Rig.LOAD, Rig.LONG, 0, 6, 0, 1020).steps(1).dueD(0, 0x12345678);
        });
        Rig.sentence("DEVICES have the addresses 61440 .. 61443", () -> {
            access(Rig.BYTE, 61439, 2);
            for (int address = 61440; address <= 61443; address++) {
                access(Rig.BYTE, address, 0);
            }
            access(Rig.BYTE, 61444, 2);
            access(Rig.BYTE, 65536 + 61440, 2);
            access(Rig.BYTE, 61440 - 65536, 2);
        });
    }

    private static void registersAndStatus() {
        Rig.sentence("REGISTERS D0 .. D7 and A0 .. A7 (32 bits)", () -> {
            new Rig().d(7, -1).d(0, 1).code(Rig.ADD, Rig.LONG, 7, 0, 0).steps(1).dueD(7, 0);
            new Rig().d(7, MIN).d(0, 1).code(Rig.SUB, Rig.LONG, 7, 0, 0).steps(1).dueD(7, MAX);
            new Rig().a(6, -1).d(0, 1).code(Rig.ADDA, Rig.LONG, 6, 0, 0).steps(1).dueA(6, 0);
            new Rig().a(0, MAX).d(0, 1).code(Rig.ADDA, Rig.LONG, 0, 0, 0).steps(1).dueA(0, MIN);
        });
        Rig.sentence("(A7 is the supervisor's while S is 1, else the user's; OTHER is the one that A7 is not)", () -> {
            new Rig().dueA(7, Rig.STACK).dueOther(Rig.USER_STACK).status(0).dueA(7, Rig.USER_STACK).dueOther(Rig.STACK);
            new Rig().code(Rig.SETS, Rig.WORD, 0, 6, 2, Rig.S).steps(1).dueA(7, Rig.STACK).dueOther(Rig.USER_STACK);
            new Rig().code(Rig.SETS, Rig.WORD, 0, 6, 2, 0).steps(1).dueA(7, Rig.USER_STACK).dueOther(Rig.STACK);
            new Rig().status(0).code(Rig.TRAP, 0, 0, 0, 0).steps(1).dueA(7, Rig.STACK - 6).dueOther(Rig.USER_STACK);
        });
        Rig.sentence("the MASK (0 .. 7) times 256", () -> {
            for (int mask = 0; mask <= 7; mask++) {
                new Rig().d(0, Rig.S | mask * 256).code(Rig.SETS, Rig.WORD, 0, 0, 0).steps(1).dueStatus(Rig.S | mask * 256);
            }
            new Rig().d(0, Rig.S | 2048).code(Rig.SETS, Rig.WORD, 0, 0, 0).steps(1).dueStatus(Rig.S);
        });
        Rig.sentence("the other bits are always 0 (are dropped)", () -> {
            new Rig().d(0, 65535).code(Rig.SETS, Rig.WORD, 0, 0, 0).code(Rig.GETS, Rig.WORD, 0, 0, 1).steps(1)
                .dueStatus(42783).status(Rig.S | 20448).steps(1).dueD(1, Rig.S | 20448 & 42783);
            new Rig().code(Rig.CONTROL, 0, 0, 0, 3, 65535).steps(1).dueStatus(42783);
            new Rig().memory(Rig.STACK, 65535).code(Rig.CONTROL, 0, 0, 0, 2).steps(1).dueStatus(42783);
            new Rig().status(-1 - Rig.T).code(Rig.TRAP, 0, 0, 0, 0).steps(1).dueShortFrame(42783 - Rig.T, 514);
        });
    }

    private static void accesses() {
        Rig.sentence("an ADDRESS ERROR (exception 3) if it is a word or long and the address is odd", () -> {
            for (int size = Rig.WORD; size <= Rig.LONG; size++) {
                for (int address : new int[] {1, 701, 1019, 1021, 1023, 1025, 61441, 61443, -1, -3, MAX, MIN + 1}) {
                    access(size, address, 3);
                }
            }
            access(Rig.BYTE, 1, 0);
            access(Rig.BYTE, 701, 0);
        });
        Rig.sentence("else a BUS ERROR (2) if it is not wholly in memory", () -> {
            access(Rig.WORD, 0, 0);
            access(Rig.WORD, 1022, 0);
            access(Rig.WORD, 1024, 2);
            access(Rig.WORD, -2, 2);
            access(Rig.LONG, 0, 0);
            access(Rig.LONG, 1020, 0);
            access(Rig.LONG, 1022, 2);
            access(Rig.LONG, 1024, 2);
            access(Rig.LONG, -4, 2);
            access(Rig.LONG, -2, 2);
        });
        Rig.sentence("and not a byte of a device", () -> {
            for (int address = 61438; address <= 61444; address += 2) {
                access(Rig.WORD, address, 2);
                access(Rig.LONG, address, 2);
            }
            Rig kept = new Rig().status(Rig.S | 0x700).code(Rig.LOAD, Rig.WORD, 0, 6, 1, 0, 61442);
            kept.x.comes(7);
            kept.steps(1).dueException(2);
            Rig.due("the byte that came was not taken", kept.x.comes(8), false);
        });
        Rig.sentence("an address, an unsigned number of 32 bits", () -> {
            for (int address : new int[] {MIN, MIN + 1020, MAX - 1, 65536, 65536 + 700, -65536, 1 << 20}) {
                access(Rig.BYTE, address, 2);
                access(Rig.WORD, address, 2);
                access(Rig.LONG, address, 2);
            }
        });
        Rig.sentence("a write that is not wholly in memory writes nothing of it", () -> {
            Rig rig = new Rig().memory(1022, 0x5555).d(0, -1).code(Rig.STORE, Rig.LONG, 0, 6, 0, 1022).steps(1);
            rig.dueException(2).dueWord(1022, 0x5555);
            new Rig().d(0, -1).code(Rig.STORE, Rig.LONG, 0, 6, 0, -2).steps(1).dueException(2).dueWord(0, 0);
        });
    }

    private static void wordsOfAnInstruction() {
        Rig.sentence("Reading the words of an instruction at PC is such an access, too (words)", () -> {
            for (int pc : new int[] {1, 513, 1021, 1023, 1025, 61441, -1, MAX}) {
                new Rig().a(7, 800).pc(pc).steps(1).dueException(3).dueLongFrame(1, pc, 0, Rig.S, pc);
            }
            for (int pc : new int[] {1024, 1026, 61438, 61440, 61442, 65536, -2, MIN, MAX - 1}) {
                new Rig().a(7, 800).pc(pc).steps(1).dueException(2).dueLongFrame(1, pc, 0, Rig.S, pc);
            }
            new Rig().memory(0, NOTHING).pc(0).steps(1).duePc(2).dueNoException();
            new Rig().memory(1022, NOTHING).pc(1022).steps(1).duePc(1024).dueNoException();
        });
        Rig.sentence("Reading the words of an instruction: a further word that is not in memory", () -> {
            int[] withOneWord = {Rig.word(Rig.LOAD, Rig.WORD, 0, 5, 0), Rig.word(Rig.LOAD, Rig.WORD, 0, 6, 0),
                Rig.word(Rig.LOAD, Rig.LONG, 0, 6, 1), Rig.word(Rig.LOAD, Rig.BYTE, 0, 6, 2),
                Rig.word(Rig.LOAD, Rig.LONG, 0, 6, 2), Rig.word(Rig.LOAD, Rig.WORD, 0, 6, 3), Rig.word(Rig.BRANCH, 0, 0, 0, 0),
                Rig.word(Rig.BRANCH, 0, 5, 0, 0), Rig.word(Rig.CONTROL, 0, 0, 0, 3), Rig.word(Rig.LEA, Rig.LONG, 0, 5, 0),
                Rig.word(Rig.CALL, Rig.LONG, 0, 6, 0)};
            for (int word : withOneWord) {
                Rig rig = new Rig().a(7, 800).memory(1022, word).pc(1022).steps(1);
                rig.dueException(2).dueLongFrame(1, 1024, word, Rig.S, 1024).dueA(0, 0).dueD(0, 0).dueAbout(0, 0);
            }
        });
        Rig.sentence("PC is behind it when it was read (of a long, behind the first word of two)", () -> {
            int[] withTwoWords = {Rig.word(Rig.LOAD, Rig.LONG, 0, 6, 1), Rig.word(Rig.LOAD, Rig.LONG, 0, 6, 2)};
            for (int word : withTwoWords) {
                Rig rig = new Rig().a(7, 800).memory(1020, word).pc(1020).steps(1);
                rig.dueException(2).dueLongFrame(1, 1024, word, Rig.S, 1024);
                new Rig().memory(1018, word).pc(1018).steps(1).dueNoException().duePc(1024);
            }
        });
    }

    private static void whatStaysDone() {
        Rig.sentence("What was done before in an instruction stays done", () -> {
            new Rig().a(3, 1024).code(Rig.LOAD, Rig.WORD, 0, 3, 3).steps(1).dueException(2).dueA(3, 1026);
            new Rig().a(3, 1).code(Rig.LOAD, Rig.WORD, 0, 4, 3).steps(1).dueException(3).dueA(3, -1);
            new Rig().status(0).a(7, 1024).code(Rig.STORE, Rig.BYTE, 0, 3, 7).steps(1).dueException(2).dueOther(1026);
            new Rig().status(0).a(7, 0).code(Rig.STORE, Rig.BYTE, 0, 4, 7).steps(1).dueException(2).dueOther(-2);
            new Rig().status(0).a(7, 0).code(Rig.CALL, Rig.LONG, 0, 6, 0, 700).steps(1).dueException(2).dueOther(-4);
            new Rig().status(0).a(7, 1021).code(Rig.CONTROL, 0, 0, 0, 1).steps(1).dueException(3).dueOther(1021);
        });
        Rig.sentence("(flags change when its last access is made)", () -> {
            int[] ops = {Rig.LOAD, Rig.STORE, Rig.ADD, Rig.SUB, Rig.CMP, Rig.AND, Rig.OR, Rig.XOR, Rig.ADDTO, Rig.SUBTO,
                Rig.CLEAR, Rig.TEST, Rig.NEGATE, Rig.NOT, Rig.MULTIPLY, Rig.DIVIDE, Rig.DIVIDES, Rig.SETS, Rig.CHECK};
            for (int op : ops) {
                for (int address : new int[] {701, 1024}) {
                    for (int flags = 0; flags <= ALL; flags += ALL) {
                        Rig rig = new Rig().status(Rig.S | flags).d(0, -7).a(3, address).code(op, Rig.WORD, 0, 2, 3).steps(1);
                        rig.dueException(address == 701 ? 3 : 2).dueStatus(Rig.S | flags).dueD(0, -7);
                    }
                }
            }
        });
        Rig.sentence("(flags change when its last access is made: a status that becomes a word, too)", () -> {
            new Rig().a(7, 800).memory(1022, Rig.word(Rig.CONTROL, 0, 0, 0, 3)).pc(1022).status(Rig.S | ALL).steps(1)
                .dueException(2).dueStatus(Rig.S | ALL).dueAbout(0, 0);
            Rig half = new Rig().a(7, 1020).memory(1020, 0).code(Rig.CONTROL, 0, 0, 0, 2).steps(1);
            half.dueException(2).dueStatus(Rig.S).dueA(7, 1022 - 14);
        });
    }

    private static void growingAndFalling() {
        Rig.sentence("3: at Aq, which grows by the size in bytes, its old value is the address (32 bits)", () -> {
            int[] by = {1, 2, 4};
            for (int size = 0; size < 3; size++) {
                for (int q = 0; q < 7; q++) {
                    new Rig().longAt(700, 0x12345678).a(q, 700).code(Rig.TEST, size, 0, 3, q).steps(1).dueA(q, 700 + by[size]);
                }
                int word = Rig.word(Rig.TEST, size, 0, 3, 3);
                new Rig().a(3, -by[size]).raw(word).steps(1).dueException(2).dueA(3, 0)
                    .dueLongFrame(1, -by[size], word, Rig.S, 514);
            }
            new Rig().d(0, 0x12345678).a(3, 1020).code(Rig.STORE, Rig.LONG, 0, 3, 3).steps(1).dueA(3, 1024)
                .dueLong(1020, 0x12345678).dueNoException();
        });
        Rig.sentence("4: at Aq, which falls by that before (32 bits)", () -> {
            int[] by = {1, 2, 4};
            for (int size = 0; size < 3; size++) {
                for (int q = 0; q < 7; q++) {
                    new Rig().a(q, by[size]).code(Rig.TEST, size, 0, 4, q).steps(1).dueA(q, 0).dueNoException();
                }
                int word = Rig.word(Rig.TEST, size, 0, 4, 3);
                new Rig().a(3, 0).raw(word).steps(1).dueException(2).dueA(3, -by[size])
                    .dueLongFrame(1, -by[size], word, Rig.S, 514);
            }
            new Rig().d(0, 0x12345678).a(3, 1024).code(Rig.STORE, Rig.LONG, 0, 4, 3).steps(1).dueA(3, 1020)
                .dueLong(1020, 0x12345678).dueNoException();
        });
        Rig.sentence("(a byte at A7: by 2)", () -> {
            for (int status : new int[] {Rig.S, 0}) {
                new Rig().status(status).a(7, 700).code(Rig.TEST, Rig.BYTE, 0, 3, 7).steps(1).dueA(7, 702);
                new Rig().status(status).a(7, 700).code(Rig.TEST, Rig.WORD, 0, 3, 7).steps(1).dueA(7, 702);
                new Rig().status(status).a(7, 700).code(Rig.TEST, Rig.LONG, 0, 3, 7).steps(1).dueA(7, 704);
            }
            new Rig().memory(1022, 0x1234).a(7, 1022).code(Rig.LOAD, Rig.BYTE, 0, 3, 7).steps(1).dueA(7, 1024).dueD(0, 0x12);
        });
        Rig.sentence("(a byte at A7: by 2): falls by that before", () -> {
            for (int status : new int[] {Rig.S, 0}) {
                new Rig().status(status).a(7, 700).code(Rig.TEST, Rig.BYTE, 0, 4, 7).steps(1).dueA(7, 698);
                new Rig().status(status).a(7, 700).code(Rig.TEST, Rig.WORD, 0, 4, 7).steps(1).dueA(7, 698);
                new Rig().status(status).a(7, 700).code(Rig.TEST, Rig.LONG, 0, 4, 7).steps(1).dueA(7, 696);
            }
            new Rig().d(0, 0x12).a(7, 2).code(Rig.STORE, Rig.BYTE, 0, 4, 7).steps(1).dueA(7, 0).dueWord(0, 0x1200);
        });
        Rig.sentence("What is said of Aq and PC is done before the access", () -> {
            new Rig().longAt(700, 0x12345678).a(3, 700).code(Rig.LOADA, Rig.LONG, 3, 3, 3).steps(1).dueA(3, 0x12345678);
            new Rig().longAt(696, 0x12345678).a(3, 700).code(Rig.LOADA, Rig.LONG, 3, 4, 3).steps(1).dueA(3, 0x12345678);
            int word = Rig.word(Rig.LOAD, Rig.WORD, 0, 6, 1);
            new Rig().code(Rig.LOAD, Rig.WORD, 0, 6, 1, 0, 1024).steps(1).dueException(2)
                .dueLongFrame(1, 1024, word, Rig.S, 518);
        });
    }

    /** LEA tells the address that was worked out, and makes no access for it. */
    private static void dueAddress(int base, int m, int q, int word, int want) {
        new Rig().a(2, base).code(Rig.LEA, Rig.LONG, 1, m, q, word).steps(1).dueA(1, want).dueNoException().duePc(516);
    }

    private static void wordsWithSign() {
        Rig.sentence("5: at Aq and the next word, with sign", () -> {
            dueAddress(1000, 5, 2, 0, 1000);
            dueAddress(1000, 5, 2, 32767, 33767);
            dueAddress(1000, 5, 2, 32768, 1000 - 32768);
            dueAddress(1000, 5, 2, 65535, 999);
            dueAddress(0, 5, 2, 65535, -1);
            dueAddress(-1, 5, 2, 1, 0);
            dueAddress(MAX, 5, 2, 1, MIN);
            dueAddress(MIN, 5, 2, 65535, MAX);
            new Rig().memory(10, 77).a(2, -20).code(Rig.LOAD, Rig.WORD, 0, 5, 2, 30).steps(1).dueD(0, 77);
        });
        Rig.sentence("6, q 0: at the next word, with sign", () -> {
            dueAddress(0, 6, 0, 0, 0);
            dueAddress(0, 6, 0, 32767, 32767);
            dueAddress(0, 6, 0, 32768, -32768);
            dueAddress(0, 6, 0, 65535, -1);
            int word = Rig.word(Rig.TEST, Rig.BYTE, 0, 6, 0);
            new Rig().code(Rig.TEST, Rig.BYTE, 0, 6, 0, 61440).steps(1).dueException(2)
                .dueLongFrame(1, 61440 - 65536, word, Rig.S, 516);
        });
        Rig.sentence("q 1: at the next long", () -> {
            for (int address : new int[] {0, 1, 32768, 65535, 65536, -1, MIN, MAX}) {
                new Rig().code(Rig.LEA, Rig.LONG, 1, 6, 1, address >>> 16, address).steps(1).dueA(1, address).duePc(518);
            }
        });
        Rig.sentence("q 3: at the next word, with sign, and the address of that word", () -> {
            dueAddress(0, 6, 3, 0, 514);
            dueAddress(0, 6, 3, 32767, 514 + 32767);
            dueAddress(0, 6, 3, 32768, 514 - 32768);
            dueAddress(0, 6, 3, 65535, 513);
            dueAddress(0, 6, 3, -514, 0);
            dueAddress(0, 6, 3, -516, -2);
            new Rig().code(Rig.LOAD, Rig.WORD, 0, 6, 3, 0).steps(1).dueD(0, 0);
            new Rig().code(Rig.LOAD, Rig.WORD, 0, 6, 3, -2).steps(1).dueD(0, Rig.word(Rig.LOAD, Rig.WORD, 0, 6, 3));
        });
    }

    private static void valuesThemselves() {
        Rig.sentence("q 2: the next word itself (of a byte: its low byte; long: the next long)", () -> {
            new Rig().d(0, -1).code(Rig.LOAD, Rig.BYTE, 0, 6, 2, 0xFF00).steps(1).dueD(0, -256).dueFlags(Rig.Z).duePc(516);
            new Rig().code(Rig.LOAD, Rig.BYTE, 0, 6, 2, 0x80).steps(1).dueD(0, 0x80).dueFlags(Rig.N);
            new Rig().d(0, -1).code(Rig.LOAD, Rig.WORD, 0, 6, 2, 0).steps(1).dueD(0, 0xFFFF0000).dueFlags(Rig.Z).duePc(516);
            new Rig().code(Rig.LOAD, Rig.WORD, 0, 6, 2, 0xFFFF).steps(1).dueD(0, 0xFFFF).dueFlags(Rig.N);
            new Rig().code(Rig.LOAD, Rig.LONG, 0, 6, 2, 0x8000, 1).steps(1).dueD(0, MIN + 1).dueFlags(Rig.N).duePc(518);
            new Rig().d(0, 5).code(Rig.LOAD, Rig.LONG, 0, 6, 2, 0, 0).steps(1).dueD(0, 0).dueFlags(Rig.Z);
        });
        Rig.sentence("A byte or word put into Dq changes the low bits alone", () -> {
            new Rig().d(0, 0x12345678).d(1, -1).code(Rig.STORE, Rig.BYTE, 0, 0, 1).steps(1).dueD(1, 0xFFFFFF78);
            new Rig().d(0, 0x12345678).d(1, -1).code(Rig.STORE, Rig.WORD, 0, 0, 1).steps(1).dueD(1, 0xFFFF5678);
            new Rig().d(0, 0x123456FF).d(1, 1).code(Rig.ADDTO, Rig.BYTE, 1, 0, 0).steps(1).dueD(0, 0x12345600);
            new Rig().d(0, 0x1234FFFF).d(1, 1).code(Rig.ADD, Rig.WORD, 0, 0, 1).steps(1).dueD(0, 0x12340000);
            new Rig().d(1, 0x12345600).code(Rig.NOT, Rig.BYTE, 0, 0, 1).steps(1).dueD(1, 0x123456FF);
            new Rig().d(0, 0x12345681).code(Rig.SHIFT, Rig.BYTE, 0, 2, 1).steps(1).dueD(0, 0x12345602);
        });
        Rig.sentence("a word put into Ar is extended with sign", () -> {
            new Rig().d(0, 0x12347FFF).code(Rig.LOADA, Rig.WORD, 1, 0, 0).steps(1).dueA(1, 32767);
            new Rig().d(0, 0x12348000).code(Rig.LOADA, Rig.WORD, 1, 0, 0).steps(1).dueA(1, -32768);
            new Rig().d(0, 0x1234FFFF).code(Rig.LOADA, Rig.WORD, 1, 0, 0).steps(1).dueA(1, -1);
            new Rig().d(0, 0x12348000).code(Rig.LOADA, Rig.LONG, 1, 0, 0).steps(1).dueA(1, 0x12348000);
        });
    }

    private static void noOperands() {
        Rig.sentence("All others, and m 7, are none", () -> {
            int[] ops = {Rig.LOAD, Rig.STORE, Rig.LOADA, Rig.ADD, Rig.SUB, Rig.CMP, Rig.AND, Rig.OR, Rig.XOR, Rig.ADDTO,
                Rig.SUBTO, Rig.ADDA, Rig.CLEAR, Rig.TEST, Rig.NEGATE, Rig.NOT, Rig.MULTIPLY, Rig.DIVIDE, Rig.DIVIDES,
                Rig.GETS, Rig.SETS, Rig.CHECK};
            for (int op : ops) {
                for (int q = 4; q <= 7; q++) {
                    none(op, Rig.WORD, 6, q);
                }
                for (int q = 0; q <= 7; q++) {
                    none(op, Rig.WORD, 7, q);
                }
            }
        });
    }

    private static void none(int op, int size, int m, int q) {
        new Rig().code(op, size, 0, m, q, 700, 700).steps(1).dueException(4).dueShortFrame(Rig.S, 512);
    }

    private static void some(int op, int size, int m, int q) {
        new Rig().a(q, 700).d(q, 700).code(op, size, 0, m, q, 0, 700).steps(1).dueNoException();
    }

    private static void kinds() {
        Rig.sentence("DATA: all but 1", () -> {
            for (int op : new int[] {Rig.AND, Rig.OR, Rig.XOR, Rig.TEST, Rig.MULTIPLY, Rig.SETS}) {
                for (int m = 0; m <= 5; m++) {
                    if (m == 1) {
                        none(op, Rig.WORD, m, 1);
                    } else {
                        some(op, Rig.WORD, m, 1);
                    }
                }
                for (int q = 0; q <= 3; q++) {
                    some(op, Rig.WORD, 6, q);
                }
            }
        });
        Rig.sentence("ALTERABLE: 0, 2 .. 5, and 6 with q 0, 1", () -> {
            for (int op : new int[] {Rig.STORE, Rig.ADDTO, Rig.SUBTO, Rig.CLEAR, Rig.NEGATE, Rig.NOT, Rig.GETS}) {
                for (int m = 0; m <= 5; m++) {
                    if (m == 1) {
                        none(op, Rig.WORD, m, 1);
                    } else {
                        some(op, Rig.WORD, m, 1);
                    }
                }
                some(op, Rig.WORD, 6, 0);
                some(op, Rig.WORD, 6, 1);
                none(op, Rig.WORD, 6, 2);
                none(op, Rig.WORD, 6, 3);
            }
        });
        Rig.sentence("PLACES: 2, 5, and 6 with q 0, 1, 3", () -> {
            for (int op : new int[] {Rig.LEA, Rig.JUMP, Rig.CALL}) {
                for (int m = 0; m <= 5; m++) {
                    if (m == 2 || m == 5) {
                        some(op, Rig.LONG, m, 1);
                    } else {
                        none(op, Rig.LONG, m, 1);
                    }
                }
                some(op, Rig.LONG, 6, 0);
                some(op, Rig.LONG, 6, 1);
                none(op, Rig.LONG, 6, 2);
                some(op, Rig.LONG, 6, 3);
                none(op, Rig.LONG, 6, 4);
                none(op, Rig.LONG, 7, 0);
            }
        });
        Rig.sentence("(no access is made for the address itself)", () -> {
            for (int address : new int[] {701, 1023, 1024, 61440, -1, -2, MIN, MAX}) {
                new Rig().a(3, address).code(Rig.LEA, Rig.LONG, 1, 2, 3).steps(1).dueNoException().dueA(1, address);
                new Rig().a(3, address).code(Rig.JUMP, Rig.LONG, 1, 2, 3).steps(1).dueNoException().duePc(address);
                new Rig().a(3, address).code(Rig.CALL, Rig.LONG, 1, 2, 3).steps(1).dueNoException().duePc(address);
            }
            Rig kept = new Rig().status(Rig.S | 0x700).a(3, 61442).code(Rig.LEA, Rig.LONG, 1, 2, 3);
            kept.x.comes(1);
            kept.steps(1);
            Rig.due("the byte that came was not taken", kept.x.comes(2), false);
        });
        Rig.sentence("ANY: all", () -> {
            for (int op : new int[] {Rig.LOAD, Rig.LOADA, Rig.ADD, Rig.SUB, Rig.CMP, Rig.ADDA}) {
                for (int m = 0; m <= 5; m++) {
                    some(op, Rig.WORD, m, 1);
                }
                for (int q = 0; q <= 3; q++) {
                    some(op, Rig.WORD, 6, q);
                }
            }
        });
    }
}
