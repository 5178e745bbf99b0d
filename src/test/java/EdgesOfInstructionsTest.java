/** Terms, the instructions one by one, at their edges: a test of its own for each sentence that names one. */
public final class EdgesOfInstructionsTest {
    private static final int MIN = Integer.MIN_VALUE;
    private static final int MAX = Integer.MAX_VALUE;
    private static final int ALL = 31;
    private static final int X = Rig.X, N = Rig.N, Z = Rig.Z, V = Rig.V, C = Rig.C;
    private static final int[] LOW = {255, 65535, -1};
    private static final int[] TOP = {128, 32768, MIN};

    public static void main(String[] args) {
        results();
        sums();
        moves();
        ownOperand();
        shifts();
        multiply();
        divide();
        branches();
        callsAndReturns();
        control();
        status();
        check();
        sizes();
        noInstructions();
        rights();
        Rig.end("EdgesOfInstructionsTest");
    }

    /** D0 and D1 before an instruction with r 0, m 0 and q 1. */
    private static Rig two(int op, int size, int d0, int d1, int flags) {
        return new Rig().d(0, d0).d(1, d1).status(Rig.S | flags).code(op, size, 0, 0, 1).steps(1);
    }

    private static void results() {
        Rig.sentence("NZ: N is the result's highest bit, Z whether it is 0, V and C 0", () -> {
            for (int size = 0; size < 3; size++) {
                int above = size == 2 ? 0 : LOW[size] + 1;
                for (int flags = 0; flags <= ALL; flags += ALL) {
                    int x = flags & X;
                    two(Rig.LOAD, size, 5, TOP[size], flags).dueFlags(x | N);
                    two(Rig.LOAD, size, 5, TOP[size] - 1, flags).dueFlags(x);
                    two(Rig.LOAD, size, 5, LOW[size], flags).dueFlags(x | N);
                    two(Rig.LOAD, size, 5, above, flags).dueFlags(x | Z);
                    two(Rig.LOAD, size, 5, above | 1, flags).dueFlags(x);
                    two(Rig.STORE, size, TOP[size], 5, flags).dueFlags(x | N);
                    two(Rig.STORE, size, above, 5, flags).dueFlags(x | Z);
                    two(Rig.TEST, size, 5, TOP[size], flags).dueFlags(x | N);
                    two(Rig.TEST, size, 5, above, flags).dueFlags(x | Z);
                    two(Rig.AND, size, TOP[size], -1, flags).dueFlags(x | N);
                    two(Rig.AND, size, -1, above, flags).dueFlags(x | Z);
                    two(Rig.OR, size, TOP[size], 0, flags).dueFlags(x | N);
                    two(Rig.OR, size, above, 0, flags).dueFlags(x | Z);
                    two(Rig.XOR, size, TOP[size], 0, flags).dueFlags(x | N);
                    two(Rig.XOR, size, above | 1, 1, flags).dueFlags(x | Z);
                }
            }
        });
        Rig.sentence("SUMS: N is the result's highest bit, Z whether it is 0 (of the size)", () -> {
            for (int size = 0; size < 3; size++) {
                two(Rig.ADD, size, 0, TOP[size], 0).dueFlags(N);
                two(Rig.ADD, size, 0, TOP[size] - 1, ALL).dueFlags(0);
                two(Rig.ADD, size, size == 2 ? 0 : LOW[size] + 1, 0, ALL).dueFlags(Z);
                two(Rig.SUB, size, 7, 7, ALL).dueFlags(Z);
                two(Rig.CMP, size, size == 2 ? 7 : LOW[size] + 8, 7, 0).dueFlags(Z);
            }
        });
    }

    private static void sums() {
        Rig.sentence("C the carry of the size, X the same", () -> {
            for (int size = 0; size < 3; size++) {
                two(Rig.ADD, size, LOW[size], 1, 0).dueD(0, 0).dueFlags(Z | C | X);
                two(Rig.ADD, size, LOW[size], 0, ALL).dueFlags(N);
                two(Rig.ADD, size, LOW[size], LOW[size], 0).dueFlags(N | C | X);
                two(Rig.ADDTO, size, 1, LOW[size], 0).dueD(1, 0).dueFlags(Z | C | X);
                two(Rig.ADDTO, size, LOW[size], LOW[size] - 1, 0).dueFlags(N | C | X);
            }
            two(Rig.ADD, Rig.WORD, 255, 1, ALL).dueD(0, 256).dueFlags(0);
            two(Rig.ADD, Rig.LONG, 65535, 1, ALL).dueD(0, 65536).dueFlags(0);
        });
        Rig.sentence("C the borrow of the size, X the same", () -> {
            for (int size = 0; size < 3; size++) {
                two(Rig.SUB, size, 0, 1, 0).dueD(0, LOW[size]).dueFlags(N | C | X);
                two(Rig.SUB, size, LOW[size], LOW[size], ALL).dueD(0, 0).dueFlags(Z);
                two(Rig.SUB, size, 0, LOW[size], 0).dueD(0, 1).dueFlags(C | X);
                two(Rig.SUBTO, size, 1, 0, 0).dueD(1, LOW[size]).dueFlags(N | C | X);
                two(Rig.SUBTO, size, 0, 0, ALL).dueD(1, 0).dueFlags(Z);
            }
            two(Rig.SUB, Rig.BYTE, 256, 1, 0).dueD(0, 511).dueFlags(N | C | X);
            two(Rig.SUB, Rig.WORD, 256, 1, ALL).dueD(0, 255).dueFlags(0);
        });
        Rig.sentence("V whether the signed result is out of range", () -> {
            for (int size = 0; size < 3; size++) {
                int most = TOP[size] - 1;
                two(Rig.ADD, size, most, 1, 0).dueD(0, TOP[size]).dueFlags(N | V);
                two(Rig.ADD, size, most, 0, ALL).dueFlags(0);
                two(Rig.ADD, size, most, LOW[size], 0).dueFlags(C | X);
                two(Rig.ADD, size, TOP[size], LOW[size], 0).dueD(0, most).dueFlags(V | C | X);
                two(Rig.ADD, size, TOP[size], TOP[size], 0).dueD(0, 0).dueFlags(Z | V | C | X);
                two(Rig.SUB, size, TOP[size], 1, 0).dueD(0, most).dueFlags(V);
                two(Rig.SUB, size, TOP[size], 0, ALL).dueFlags(N);
                two(Rig.SUB, size, most, LOW[size], 0).dueD(0, TOP[size]).dueFlags(N | V | C | X);
                two(Rig.SUB, size, 0, TOP[size], 0).dueD(0, TOP[size]).dueFlags(N | V | C | X);
                two(Rig.SUB, size, LOW[size], TOP[size], ALL).dueD(0, most).dueFlags(0);
            }
        });
        Rig.sentence("5 CMP: as SUB, but X and Dr stay", () -> {
            for (int size = 0; size < 3; size++) {
                two(Rig.CMP, size, 0, 1, 0).dueD(0, 0).dueFlags(N | C);
                two(Rig.CMP, size, 0, 1, X).dueFlags(X | N | C);
                two(Rig.CMP, size, 5, 5, ALL).dueD(0, 5).dueFlags(X | Z);
                two(Rig.CMP, size, TOP[size], 1, 0).dueD(0, TOP[size]).dueFlags(V);
            }
        });
        Rig.sentence("11 ADDA: Ar = Ar + ANY (a sum of 32 bits, of a word with sign)", () -> {
            new Rig().a(1, -1).d(0, 1).status(Rig.S | ALL).code(Rig.ADDA, Rig.LONG, 1, 0, 0).steps(1).dueA(1, 0);
            new Rig().a(1, 0).d(0, 0x8000).code(Rig.ADDA, Rig.WORD, 1, 0, 0).steps(1).dueA(1, -32768);
            new Rig().a(1, 0).d(0, 0x17FFF).code(Rig.ADDA, Rig.WORD, 1, 0, 0).steps(1).dueA(1, 32767);
            new Rig().a(1, 0).d(0, 0xFFFF).code(Rig.ADDA, Rig.WORD, 1, 0, 0).steps(1).dueA(1, -1);
        });
    }

    private static void moves() {
        Rig.sentence("0 LOAD: Dr = ANY (byte: DATA)", () -> {
            new Rig().a(1, 0x12345678).code(Rig.LOAD, Rig.BYTE, 0, 1, 1).steps(1).dueException(4).dueD(0, 0);
            new Rig().a(1, 0x12345678).code(Rig.LOAD, Rig.WORD, 0, 1, 1).steps(1).dueD(0, 0x5678).dueNoException();
            new Rig().a(1, 0x12345678).code(Rig.LOAD, Rig.LONG, 0, 1, 1).steps(1).dueD(0, 0x12345678).dueNoException();
        });
        Rig.sentence("3 ADD: Dr = Dr + ANY (byte: DATA)   4 SUB   5 CMP: as SUB", () -> {
            for (int op : new int[] {Rig.ADD, Rig.SUB, Rig.CMP}) {
                new Rig().a(1, 5).d(0, 5).code(op, Rig.BYTE, 0, 1, 1).steps(1).dueException(4).dueD(0, 5);
                new Rig().a(1, 5).d(0, 5).code(op, Rig.WORD, 0, 1, 1).steps(1).dueNoException();
                new Rig().a(1, 5).d(0, 5).code(op, Rig.LONG, 0, 1, 1).steps(1).dueNoException();
            }
        });
        Rig.sentence("2 LOADA: Ar = ANY (no flag changes)", () -> {
            for (int flags = 0; flags <= ALL; flags += ALL) {
                new Rig().status(Rig.S | flags).code(Rig.LOADA, Rig.LONG, 1, 6, 2, 0, 0).steps(1).dueA(1, 0).dueFlags(flags);
                new Rig().status(Rig.S | flags).code(Rig.LOADA, Rig.WORD, 1, 6, 2, 32768).steps(1).dueFlags(flags);
            }
        });
        Rig.sentence("12 LEA: Ar = address of PLACES (no flag changes)", () -> {
            for (int flags = 0; flags <= ALL; flags += ALL) {
                new Rig().status(Rig.S | flags).code(Rig.LEA, Rig.LONG, 1, 6, 0, 0).steps(1).dueA(1, 0).dueFlags(flags);
            }
        });
    }

    private static void ownOperand() {
        Rig.sentence("13 CLEAR: ALTERABLE = 0 (it is not read), NZ", () -> {
            for (int size = 0; size < 3; size++) {
                two(Rig.CLEAR, size, 7, -1, ALL).dueD(1, ~LOW[size]).dueD(0, 7).dueFlags(X | Z);
            }
            Rig line = new Rig().status(Rig.S | 0x700).code(Rig.CLEAR, Rig.BYTE, 0, 6, 1, 0, 61442);
            line.x.comes(1);
            line.steps(1);
            Rig.due("the byte that came was not taken", line.x.comes(2), false);
            int word = Rig.word(Rig.CLEAR, Rig.WORD, 0, 6, 0);
            new Rig().code(Rig.CLEAR, Rig.WORD, 0, 6, 0, 1024).steps(1).dueException(2)
                .dueLongFrame(0, 1024, word, Rig.S, 516);
        });
        Rig.sentence("15 NEGATE: ALTERABLE = 0 - it, as SUBTO", () -> {
            for (int size = 0; size < 3; size++) {
                two(Rig.NEGATE, size, 7, 0, ALL).dueD(1, 0).dueD(0, 7).dueFlags(Z);
                two(Rig.NEGATE, size, 7, 1, 0).dueD(1, LOW[size]).dueFlags(N | C | X);
                two(Rig.NEGATE, size, 7, LOW[size], 0).dueD(1, 1).dueFlags(C | X);
                two(Rig.NEGATE, size, 7, TOP[size], 0).dueD(1, TOP[size]).dueFlags(N | V | C | X);
                two(Rig.NEGATE, size, 7, TOP[size] - 1, 0).dueD(1, TOP[size] + 1).dueFlags(N | C | X);
            }
            two(Rig.NEGATE, Rig.BYTE, 7, 0x100, ALL).dueD(1, 0x100).dueFlags(Z);
        });
        Rig.sentence("16 NOT: ALTERABLE, NZ", () -> {
            for (int size = 0; size < 3; size++) {
                two(Rig.NOT, size, 7, -1, ALL).dueD(1, ~LOW[size]).dueD(0, 7).dueFlags(X | Z);
                two(Rig.NOT, size, 7, 0, ALL).dueD(1, LOW[size]).dueFlags(X | N);
                two(Rig.NOT, size, 7, TOP[size], 0).dueD(1, TOP[size] ^ LOW[size]).dueFlags(0);
            }
        });
        Rig.sentence("16 NOT, 15 NEGATE, 9 ADDTO, 10 SUBTO: an operand that cannot be read is told as reading", () -> {
            for (int op : new int[] {Rig.NOT, Rig.NEGATE, Rig.ADDTO, Rig.SUBTO}) {
                int word = Rig.word(op, Rig.WORD, 0, 6, 0);
                new Rig().code(op, Rig.WORD, 0, 6, 0, 1024).steps(1).dueException(2).dueLongFrame(1, 1024, word, Rig.S, 516);
            }
        });
    }

    private static Rig shift(int size, int kind, int q, int value, int flags) {
        return new Rig().d(3, value).status(Rig.S | flags).code(Rig.SHIFT, size, 3, kind, q).steps(1);
    }

    private static void shifts() {
        Rig.sentence("17 SHIFT: Dr by q places (0: 8)", () -> {
            shift(2, 2, 0, 1, 0).dueD(3, 256).dueFlags(0);
            shift(2, 2, 1, 1, 0).dueD(3, 2).dueFlags(0);
            shift(2, 2, 7, 1, 0).dueD(3, 128).dueFlags(0);
            shift(2, 3, 0, 256, 0).dueD(3, 1).dueFlags(0);
            shift(0, 2, 0, 1, 0).dueD(3, 0).dueFlags(Z | C | X);
            shift(0, 2, 0, 0xFE, ALL).dueD(3, 0).dueFlags(Z);
            shift(0, 3, 0, 0x80, 0).dueD(3, 0).dueFlags(Z | C | X);
            shift(0, 3, 0, 0x7F, ALL).dueD(3, 0).dueFlags(Z);
            shift(0, 1, 0, 0x80, 0).dueD(3, 255).dueFlags(N | C | X);
            shift(0, 1, 0, 0x7F, ALL).dueD(3, 0).dueFlags(Z);
            shift(0, 4, 0, 0x81, 0).dueD(3, 0x81).dueFlags(N | C);
            shift(0, 5, 0, 0x7E, ALL).dueD(3, 0x7E).dueFlags(X);
        });
        Rig.sentence("m 0: left, V whether the highest bit changed at any time", () -> {
            for (int size = 0; size < 3; size++) {
                int next = TOP[size] >>> 1;
                shift(size, 0, 1, next, 0).dueD(3, TOP[size]).dueFlags(N | V);
                shift(size, 0, 2, next, 0).dueD(3, 0).dueFlags(Z | V | C | X);
                shift(size, 0, 1, TOP[size] | next, 0).dueD(3, TOP[size]).dueFlags(N | C | X);
                shift(size, 0, 1, TOP[size], 0).dueD(3, 0).dueFlags(Z | V | C | X);
                shift(size, 0, 1, next - 1, ALL).dueFlags(0);
                shift(size, 0, 3, LOW[size], ALL).dueFlags(N | C | X);
                shift(size, 2, 1, next, ALL).dueD(3, TOP[size]).dueFlags(N);
            }
        });
        Rig.sentence("1: right with sign; 3: right", () -> {
            for (int size = 0; size < 3; size++) {
                shift(size, 1, 1, TOP[size], ALL).dueD(3, TOP[size] >>> 1 | TOP[size]).dueFlags(N);
                shift(size, 3, 1, TOP[size], ALL).dueD(3, TOP[size] >>> 1).dueFlags(0);
                shift(size, 1, 1, LOW[size], 0).dueD(3, LOW[size]).dueFlags(N | C | X);
                shift(size, 3, 1, LOW[size], 0).dueD(3, LOW[size] >>> 1).dueFlags(C | X);
                shift(size, 1, 1, 1, 0).dueD(3, 0).dueFlags(Z | C | X);
            }
            shift(0, 1, 1, 0x100, 0).dueD(3, 0x100).dueFlags(Z);
            shift(1, 3, 1, 0x10000, 0).dueD(3, 0x10000).dueFlags(Z);
        });
        Rig.sentence("4: round to the left; 5: round to the right", () -> {
            for (int size = 0; size < 3; size++) {
                shift(size, 4, 1, TOP[size], V).dueD(3, 1).dueFlags(C);
                shift(size, 4, 1, 1, V | C).dueD(3, 2).dueFlags(0);
                shift(size, 5, 1, 1, V).dueD(3, TOP[size]).dueFlags(N | C);
                shift(size, 5, 1, TOP[size], V | C).dueD(3, TOP[size] >>> 1).dueFlags(0);
                shift(size, 4, 3, 0, ALL).dueD(3, 0).dueFlags(X | Z);
            }
        });
        Rig.sentence("C the last bit that went out (or round), X the same, but stays with 4 and 5", () -> {
            for (int kind = 0; kind <= 5; kind++) {
                int bit = kind % 2 == 0 ? 0x20 : 0x04;
                for (int flags = 0; flags <= X; flags += X) {
                    Rig out = shift(0, kind, 3, bit, flags);
                    Rig.due("C and X", out.x.get(Rig.STATUS) & (X | C), C | (kind < 4 ? X : flags));
                    Rig in = shift(0, kind, 4, bit, flags);
                    Rig.due("C and X", in.x.get(Rig.STATUS) & (X | C), kind < 4 ? 0 : flags);
                }
            }
        });
        Rig.sentence("(V 0 but for m 0; m above 5: none)", () -> {
            for (int kind = 1; kind <= 5; kind++) {
                Rig changed = shift(0, kind, 1, 0x40 | 0x80 >> kind % 2 | 1, V);
                Rig.due("V", changed.x.get(Rig.STATUS) & V, 0);
            }
            for (int size = 0; size < 3; size++) {
                shift(size, 5, 1, 1, 0).dueNoException();
                shift(size, 6, 1, 1, 0).dueException(4).dueD(3, 1).dueShortFrame(Rig.S, 512);
                shift(size, 7, 1, 1, 0).dueException(4).dueD(3, 1);
            }
        });
    }

    private static void multiply() {
        Rig.sentence("18 MULTIPLY: Dr = low word of Dr * DATA (unsigned), NZ of a long", () -> {
            two(Rig.MULTIPLY, 1, -1, -1, ALL).dueD(0, 0xFFFE0001).dueFlags(X | N);
            two(Rig.MULTIPLY, 1, 0xFFFF0000, -1, ALL).dueD(0, 0).dueFlags(X | Z);
            two(Rig.MULTIPLY, 1, -1, 0x10000, 0).dueD(0, 0).dueFlags(Z);
            two(Rig.MULTIPLY, 1, 0x8000, 0x8000, 0).dueD(0, 0x40000000).dueFlags(0);
            two(Rig.MULTIPLY, 1, 0x8000, 1, 0).dueD(0, 0x8000).dueFlags(0);
            two(Rig.MULTIPLY, 1, 0x10000 | 256, 256, 0).dueD(0, 65536).dueFlags(0);
            two(Rig.MULTIPLY, 1, 46341, 46341, 0).dueD(0, -2147479015).dueFlags(N);
        });
    }

    private static void divide() {
        Rig.sentence("19 DIVIDE, 20 DIVIDES: by 0: exception 5 (with exception 5 no flag changes)", () -> {
            for (int op = Rig.DIVIDE; op <= Rig.DIVIDES; op++) {
                for (int flags = 0; flags <= ALL; flags += ALL) {
                    two(op, 1, 5, 0, flags).dueException(5).dueD(0, 5).dueShortFrame(Rig.S | flags, 514).dueFlags(flags);
                    two(op, 1, 0, 0xFFFF0000, flags).dueException(5).dueD(0, 0).dueFlags(flags);
                }
            }
        });
        Rig.sentence("19 DIVIDE (unsigned): if the quotient does not fit a word: V 1, C 0, nothing else", () -> {
            two(Rig.DIVIDE, 1, 65535, 1, 0).dueD(0, 65535).dueFlags(N);
            two(Rig.DIVIDE, 1, 65536, 1, 0).dueD(0, 65536).dueFlags(V);
            two(Rig.DIVIDE, 1, 65536, 1, ALL).dueD(0, 65536).dueFlags(X | N | Z | V);
            two(Rig.DIVIDE, 1, 0xFFFEFFFF, 0xFFFF, 0).dueD(0, 0xFFFEFFFF).dueFlags(N);
            two(Rig.DIVIDE, 1, 0xFFFF0000, 0xFFFF, 0).dueD(0, 0xFFFF0000).dueFlags(V);
            two(Rig.DIVIDE, 1, -1, 0xFFFF, 0).dueD(0, -1).dueFlags(V);
            two(Rig.DIVIDE, 1, MIN, 0x8000, 0).dueD(0, MIN).dueFlags(V);
            two(Rig.DIVIDE, 1, MAX, 0x8000, ALL).dueD(0, 0x7FFFFFFF).dueFlags(X | N);
        });
        Rig.sentence("20 DIVIDES (with sign): if the quotient does not fit a word: V 1, C 0, nothing else", () -> {
            two(Rig.DIVIDES, 1, 32767, 1, 0).dueD(0, 32767).dueFlags(0);
            two(Rig.DIVIDES, 1, 32768, 1, 0).dueD(0, 32768).dueFlags(V);
            two(Rig.DIVIDES, 1, 32768, 0xFFFF, 0).dueD(0, 32768).dueFlags(N);
            two(Rig.DIVIDES, 1, 32769, 0xFFFF, ALL).dueD(0, 32769).dueFlags(X | N | Z | V);
            two(Rig.DIVIDES, 1, -32768, 1, 0).dueD(0, 0x8000).dueFlags(N);
            two(Rig.DIVIDES, 1, -32769, 1, 0).dueD(0, -32769).dueFlags(V);
            two(Rig.DIVIDES, 1, -32768, 0xFFFF, 0).dueD(0, -32768).dueFlags(V);
            two(Rig.DIVIDES, 1, MIN, 0xFFFF, ALL).dueD(0, MIN).dueFlags(X | N | Z | V);
            two(Rig.DIVIDES, 1, MIN, 0x8000, 0).dueD(0, MIN).dueFlags(V);
            two(Rig.DIVIDES, 1, MAX, 0x7FFF, 0).dueD(0, MAX).dueFlags(V);
        });
        Rig.sentence("else Dr = rest * 65536 + quotient, NZ of the quotient (a word; the rest has the sign of Dr)", () -> {
            two(Rig.DIVIDE, 1, 0, 1, ALL).dueD(0, 0).dueFlags(X | Z);
            two(Rig.DIVIDE, 1, 0xFFFE, 0xFFFF, 0).dueD(0, 0xFFFE0000).dueFlags(Z);
            two(Rig.DIVIDE, 1, 0x8000, 1, 0).dueD(0, 0x8000).dueFlags(N);
            two(Rig.DIVIDES, 1, 7, 0xFFFE, 0).dueD(0, 0x0001FFFD).dueFlags(N);
            two(Rig.DIVIDES, 1, -7, 2, 0).dueD(0, 0xFFFFFFFD).dueFlags(N);
            two(Rig.DIVIDES, 1, -7, 0xFFFE, ALL).dueD(0, 0xFFFF0003).dueFlags(X);
            two(Rig.DIVIDES, 1, -1, 2, ALL).dueD(0, 0xFFFF0000).dueFlags(X | Z);
            two(Rig.DIVIDES, 1, 32767, 0x8000, 0).dueD(0, 0x7FFF0000).dueFlags(Z);
        });
    }

    private static void branches() {
        Rig.sentence("21 BRANCH: condition size * 8 + r (16 and more: none)", () -> {
            new Rig().code(Rig.BRANCH, 1, 7, 0, 0, 100).steps(1).dueNoException().duePc(516);
            new Rig().status(Rig.S | Z).code(Rig.BRANCH, 1, 7, 0, 0, 100).steps(1).duePc(614);
            for (int condition = 16; condition < 32; condition++) {
                new Rig().status(Rig.S | ALL).code(Rig.BRANCH, condition / 8, condition % 8, 0, 0, 100).steps(1)
                    .dueException(4).dueShortFrame(Rig.S | ALL, 512);
            }
        });
        Rig.sentence("to the address of the next word plus that word, with sign", () -> {
            new Rig().code(Rig.BRANCH, 0, 0, 0, 0, 0).steps(1).duePc(514);
            new Rig().code(Rig.BRANCH, 0, 0, 0, 0, 32767).steps(1).duePc(514 + 32767);
            new Rig().code(Rig.BRANCH, 0, 0, 0, 0, 32768).steps(1).duePc(514 - 32768);
            new Rig().code(Rig.BRANCH, 0, 0, 0, 0, -1).steps(1).duePc(513).dueNoException();
            new Rig().code(Rig.BRANCH, 0, 0, 0, 0, -514).steps(1).duePc(0);
            new Rig().code(Rig.BRANCH, 0, 0, 0, 0, -516).steps(1).duePc(-2).dueNoException();
        });
        Rig.sentence("(m and q do not matter)", () -> {
            for (int mq = 0; mq < 64; mq++) {
                new Rig().code(Rig.BRANCH, 0, 0, mq / 8, mq % 8, 100).steps(1).duePc(614).dueNoException();
            }
        });
        Rig.sentence("1 always as a call", () -> {
            for (int flags = 0; flags <= ALL; flags += ALL) {
                new Rig().status(Rig.S | flags).code(Rig.BRANCH, 0, 1, 0, 0, 100).steps(1).duePc(614)
                    .dueA(7, Rig.STACK - 4).dueLong(Rig.STACK - 4, 516).dueFlags(flags);
            }
        });
    }

    private static void callsAndReturns() {
        Rig.sentence("a call pushes PC (a long) behind the instruction, when the address is worked out, then PC is that", () -> {
            new Rig().code(Rig.CALL, Rig.LONG, 0, 2, 7).steps(1).duePc(Rig.STACK).dueLong(Rig.STACK - 4, 514);
            new Rig().code(Rig.CALL, Rig.LONG, 0, 5, 7, 10).steps(1).duePc(Rig.STACK + 10).dueLong(Rig.STACK - 4, 516);
            new Rig().code(Rig.CALL, Rig.LONG, 0, 6, 1, 0, 700).steps(1).duePc(700).dueLong(Rig.STACK - 4, 518);
            new Rig().a(7, 4).code(Rig.CALL, Rig.LONG, 0, 6, 0, 700).steps(1).duePc(700).dueA(7, 0).dueLong(0, 516);
            new Rig().a(7, 1024).code(Rig.CALL, Rig.LONG, 0, 6, 0, 700).steps(1).duePc(700).dueLong(1020, 516);
        });
        Rig.sentence("a call whose push fails does not jump", () -> {
            int call = Rig.word(Rig.CALL, Rig.LONG, 0, 6, 0);
            int branch = Rig.word(Rig.BRANCH, 0, 1, 0, 0);
            for (int stack : new int[] {0, 2, 3, 1026, 1028, MIN}) {
                int e = stack % 2 == 0 ? 2 : 3;
                new Rig().status(0).a(7, stack).code(Rig.CALL, Rig.LONG, 0, 6, 0, 700).steps(1)
                    .dueException(e).dueLongFrame(0, stack - 4, call, 0, 516).dueOther(stack - 4);
                new Rig().status(0).a(7, stack).code(Rig.BRANCH, 0, 1, 0, 0, 100).steps(1)
                    .dueException(e).dueLongFrame(0, stack - 4, branch, 0, 516).dueOther(stack - 4);
            }
        });
        Rig.sentence("1 return: PC is popped (a pop reads, then A7 grows)", () -> {
            int word = Rig.word(Rig.CONTROL, 0, 0, 0, 1);
            new Rig().longAt(1020, 700).a(7, 1020).raw(word).steps(1).duePc(700).dueA(7, 1024).dueNoException();
            new Rig().longAt(0, -1).a(7, 0).raw(word).steps(1).duePc(-1).dueA(7, 4).dueNoException();
            for (int stack : new int[] {1022, 1024, -4, -2}) {
                new Rig().status(0).a(7, stack).raw(word).steps(1).dueException(2)
                    .dueLongFrame(1, stack, word, 0, 514).dueOther(stack);
            }
            new Rig().status(0).a(7, 701).raw(word).steps(1).dueException(3).dueLongFrame(1, 701, word, 0, 514).dueOther(701);
        });
        Rig.sentence("2 RETURN from an exception: a word and PC are popped, then the status becomes the word", () -> {
            int word = Rig.word(Rig.CONTROL, 0, 0, 0, 2);
            new Rig().memory(1018, 0).longAt(1020, 700).a(7, 1018).raw(word).steps(1)
                .duePc(700).dueStatus(0).dueA(7, Rig.USER_STACK).dueOther(1024);
            new Rig().memory(1018, 65535).longAt(1020, -1).a(7, 1018).raw(word).steps(1)
                .duePc(-1).dueStatus(42783).dueA(7, 1024).dueOther(Rig.USER_STACK).dueNoException();
            new Rig().memory(1020, 0).a(7, 1020).raw(word).steps(1).dueException(2).dueStatus(Rig.S)
                .dueLongFrame(1, 1022, word, Rig.S, 514).dueA(7, 1022 - 14).dueOther(Rig.USER_STACK);
            new Rig().memory(1022, 0).a(7, 1022).raw(word).steps(1).dueException(2)
                .dueLongFrame(1, 1024, word, Rig.S, 514).dueA(7, 1024 - 14);
        });
    }

    private static void control() {
        Rig.sentence("24, by q: 0 nothing", () -> {
            for (int flags = 0; flags <= ALL; flags += ALL) {
                Rig rig = new Rig().status(flags).code(Rig.CONTROL, 0, 0, 0, 0).steps(1).duePc(514).dueStatus(flags);
                rig.dueNoException().dueA(7, Rig.USER_STACK);
            }
        });
        Rig.sentence("3 STOP: the status becomes the next word, the machine is STOPPED", () -> {
            new Rig().code(Rig.CONTROL, 0, 0, 0, 3, 65535).steps(1).dueStatus(42783).dueAbout(0, 1).duePc(516);
            new Rig().code(Rig.CONTROL, 0, 0, 0, 3, 0).steps(1).dueStatus(0).dueAbout(0, 1).dueA(7, Rig.USER_STACK)
                .run(8, 0).duePc(516);
        });
        Rig.sentence("4 TRAP on V: exception 7, if V is 1", () -> {
            new Rig().status(Rig.S | V).code(Rig.CONTROL, 0, 0, 0, 4).steps(1).dueException(7).dueShortFrame(Rig.S | V, 514);
            new Rig().status(Rig.S | ALL - V).code(Rig.CONTROL, 0, 0, 0, 4).steps(1).dueNoException().duePc(514);
        });
        Rig.sentence("(5 to 7: none; size, r and m do not matter)", () -> {
            for (int q = 5; q <= 7; q++) {
                new Rig().code(Rig.CONTROL, 0, 0, 0, q).steps(1).dueException(4).dueShortFrame(Rig.S, 512);
                new Rig().code(Rig.CONTROL, 3, 7, 7, q).steps(1).dueException(4).dueShortFrame(Rig.S, 512);
            }
            for (int size = 0; size <= 3; size++) {
                for (int rm = 0; rm < 64; rm += 9) {
                    new Rig().code(Rig.CONTROL, size, rm / 8, rm % 8, 0).steps(1).dueNoException().duePc(514);
                    new Rig().longAt(Rig.STACK, 700).code(Rig.CONTROL, size, rm / 8, rm % 8, 1).steps(1).duePc(700);
                    new Rig().longAt(Rig.STACK + 2, 700).code(Rig.CONTROL, size, rm / 8, rm % 8, 2).steps(1).duePc(700);
                    new Rig().code(Rig.CONTROL, size, rm / 8, rm % 8, 3, 0).steps(1).dueAbout(0, 1);
                    new Rig().status(V).code(Rig.CONTROL, size, rm / 8, rm % 8, 4).steps(1).dueException(7);
                }
            }
        });
        Rig.sentence("25 TRAP: exception 32 + q + 8 * (m modulo 2)", () -> {
            for (int m = 0; m <= 7; m++) {
                for (int q = 0; q <= 7; q += 7) {
                    new Rig().code(Rig.TRAP, m % 4, q, m, q).steps(1).dueException(32 + q + 8 * (m % 2)).dueShortFrame(Rig.S, 514);
                }
            }
        });
    }

    private static void status() {
        Rig.sentence("26 SETS: the status becomes DATA", () -> {
            for (int v : new int[] {0, 1, 31, 8192, 42783, 65535, 22752}) {
                new Rig().status(Rig.S | ALL).d(1, 0x7FFF0000 | v).code(Rig.SETS, Rig.WORD, 0, 0, 1).steps(1)
                    .dueStatus(v & 42783).dueNoException();
            }
            new Rig().memory(Rig.STACK, 0).code(Rig.SETS, Rig.WORD, 0, 3, 7).steps(1)
                .dueStatus(0).dueA(7, Rig.USER_STACK).dueOther(Rig.STACK + 2);
        });
        Rig.sentence("27 GETS: ALTERABLE = status (no flag changes, and S is not needed)", () -> {
            for (int v : new int[] {0, 31, 4, 0x700}) {
                new Rig().status(v).d(1, -1).code(Rig.GETS, Rig.WORD, 0, 0, 1).steps(1)
                    .dueD(1, 0xFFFF0000 | v).dueStatus(v).dueNoException();
            }
            new Rig().status(0).a(7, 700).code(Rig.GETS, Rig.WORD, 0, 4, 7).steps(1).dueA(7, 698).dueNoException();
        });
        Rig.sentence("27 GETS: ALTERABLE = status (it is not read)", () -> {
            int word = Rig.word(Rig.GETS, Rig.WORD, 0, 6, 0);
            new Rig().code(Rig.GETS, Rig.WORD, 0, 6, 0, 1024).steps(1).dueException(2).dueLongFrame(0, 1024, word, Rig.S, 516);
        });
        Rig.sentence("28 OTHER: m 0: OTHER = Aq, else Aq = OTHER", () -> {
            for (int q = 0; q <= 7; q++) {
                new Rig().a(q, 77).code(Rig.OTHER, 0, 0, 0, q).steps(1).dueOther(77).dueA(q, 77);
                for (int m = 1; m <= 7; m++) {
                    new Rig().code(Rig.OTHER, m % 4, 7, m, q).steps(1).dueA(q, Rig.USER_STACK).dueOther(Rig.USER_STACK);
                }
            }
        });
    }

    private static void check() {
        Rig.sentence("29 CHECK: exception 6 if the low word of Dr (with sign) is below 0 (N becomes 1)", () -> {
            for (int flags = 0; flags <= ALL; flags += ALL) {
                for (int own : new int[] {0xFFFF, 0x8000, -1, 0x1234FFFF}) {
                    for (int bound : new int[] {0, 1, 0x7FFF, 0xFFFF}) {
                        two(Rig.CHECK, 1, own, bound, flags).dueException(6).dueFlags(flags | N)
                            .dueShortFrame(Rig.S | flags | N, 514).dueD(0, own);
                    }
                }
                two(Rig.CHECK, 1, 0xFFFF0000, 0, flags).dueNoException().dueFlags(flags).duePc(514);
            }
        });
        Rig.sentence("29 CHECK: exception 6 if it is above DATA (N becomes 0)", () -> {
            for (int flags = 0; flags <= ALL; flags += ALL) {
                two(Rig.CHECK, 1, 0, 0, flags).dueNoException().dueFlags(flags);
                two(Rig.CHECK, 1, 1, 0, flags).dueException(6).dueFlags(flags & ~N).dueShortFrame(Rig.S | flags & ~N, 514);
                two(Rig.CHECK, 1, 0x7FFF, 0x7FFF, flags).dueNoException().dueFlags(flags);
                two(Rig.CHECK, 1, 0x7FFF, 0x7FFE, flags).dueException(6).dueFlags(flags & ~N);
                two(Rig.CHECK, 1, 0, 0xFFFF, flags).dueException(6).dueFlags(flags & ~N);
                two(Rig.CHECK, 1, 0x7FFF, 0x8000, flags).dueException(6).dueFlags(flags & ~N);
                two(Rig.CHECK, 1, 5, 0x10005, flags).dueNoException().dueFlags(flags);
                two(Rig.CHECK, 1, 6, 0x10005, flags).dueException(6).dueFlags(flags & ~N);
            }
        });
    }

    private static void sizes() {
        Rig.sentence("The size must be 1 for 18, 19, 20, 26, 27 and 29", () -> onlySizes(2, new int[] {18, 19, 20, 26, 27, 29}));
        Rig.sentence("2 for 12, 22 and 23", () -> onlySizes(4, new int[] {12, 22, 23}));
        Rig.sentence("1 or 2 for 2 and 11", () -> onlySizes(6, new int[] {2, 11}));
        Rig.sentence("3 is none", () -> onlySizes(7, new int[] {0, 1, 3, 4, 5, 6, 7, 8, 9, 10, 13, 14, 15, 16}));
        Rig.sentence("3 is none (17 SHIFT)", () -> {
            for (int size = 0; size <= 3; size++) {
                shift(size, 0, 1, 1, 0).dueAbout(4, size == 3 ? 4 : 0);
            }
        });
        Rig.sentence("(but in 21, 24, 25, 28, where it does not matter)", () -> {
            for (int size = 0; size <= 3; size++) {
                new Rig().code(Rig.CONTROL, size, 0, 0, 0).steps(1).dueNoException();
                new Rig().code(Rig.TRAP, size, 0, 0, 0).steps(1).dueException(32);
                new Rig().a(1, 5).code(Rig.OTHER, size, 0, 0, 1).steps(1).dueNoException().dueOther(5);
            }
            new Rig().code(Rig.BRANCH, 0, 0, 0, 0, 100).steps(1).dueNoException().duePc(614);
            new Rig().code(Rig.BRANCH, 1, 0, 0, 0, 100).steps(1).dueNoException().duePc(614);
        });
    }

    /** Each op, with an operand that every kind has, in the sizes of these bits and in no other. */
    private static void onlySizes(int bits, int[] ops) {
        for (int op : ops) {
            for (int size = 0; size <= 3; size++) {
                boolean allowed = (bits >> size & 1) == 1;
                Rig rig = new Rig().d(1, 1).a(3, 700).memory(700, 1).code(op, size, 1, 2, 3).steps(1);
                rig.dueAbout(4, allowed ? 0 : 4);
                if (!allowed) {
                    rig.dueException(4).dueShortFrame(Rig.S, 512);
                }
            }
        }
    }

    private static void noInstructions() {
        Rig.sentence("30, 31: none", () -> {
            for (int rest = 0; rest < 2048; rest += 31) {
                new Rig().raw(30 * 2048 + rest).steps(1).dueException(4).dueShortFrame(Rig.S, 512);
                new Rig().raw(31 * 2048 + rest).steps(1).dueException(4).dueShortFrame(Rig.S, 512);
            }
            new Rig().raw(65535).steps(1).dueException(4);
        });
        Rig.sentence("An instruction that is none in any of these ways is exception 4, before any further word is read", () -> {
            int[] words = {Rig.word(Rig.LOAD, 3, 0, 6, 0), Rig.word(Rig.LOADA, 0, 0, 6, 0), Rig.word(Rig.LEA, 1, 0, 6, 0),
                Rig.word(Rig.LEA, 2, 0, 6, 2), Rig.word(Rig.STORE, 1, 0, 6, 3), Rig.word(Rig.CLEAR, 1, 0, 6, 2),
                Rig.word(Rig.MULTIPLY, 2, 0, 6, 2), Rig.word(Rig.BRANCH, 2, 0, 0, 0), Rig.word(Rig.CALL, 0, 0, 6, 1),
                Rig.word(Rig.SETS, 0, 0, 6, 2), 30 * 2048 + 2 * 512 + 6 * 8, 65535};
            for (int word : words) {
                new Rig().memory(1022, word).pc(1022).steps(1).dueException(4).dueShortFrame(Rig.S, 1022);
            }
            new Rig().a(3, 700).code(Rig.LOAD, 3, 0, 3, 3).steps(1).dueException(4).dueA(3, 700);
            new Rig().a(3, 701).code(Rig.LOADA, 0, 0, 4, 3).steps(1).dueException(4).dueA(3, 701);
        });
    }

    private static void rights() {
        Rig.sentence("24 with q 2 and 3, 26 and 28 need S 1: else exception 8", () -> {
            int[] words = {Rig.word(Rig.CONTROL, 0, 0, 0, 2), Rig.word(Rig.CONTROL, 3, 7, 7, 3), Rig.word(Rig.SETS, 1, 0, 0, 0),
                Rig.word(Rig.OTHER, 0, 0, 0, 0), Rig.word(Rig.OTHER, 0, 0, 1, 0)};
            for (int word : words) {
                new Rig().status(ALL).raw(word).steps(1).dueException(8).dueShortFrame(ALL, 512).dueStatus(Rig.S | ALL)
                    .dueOther(Rig.USER_STACK).dueA(0, 0).dueAbout(0, 0);
                Rig supervisor = new Rig().raw(word).steps(1);
                supervisor.dueNoException();
            }
            for (int q : new int[] {0, 1, 4}) {
                new Rig().status(0).code(Rig.CONTROL, 0, 0, 0, q).steps(1).dueNoException();
            }
        });
        Rig.sentence("likewise (before any further word is read)", () -> {
            int[] words = {Rig.word(Rig.CONTROL, 0, 0, 0, 3), Rig.word(Rig.SETS, 1, 0, 6, 2), Rig.word(Rig.SETS, 1, 0, 6, 1),
                Rig.word(Rig.SETS, 1, 0, 5, 0)};
            for (int word : words) {
                new Rig().status(0).memory(1022, word).pc(1022).steps(1).dueException(8).dueShortFrame(0, 1022);
            }
            new Rig().status(0).a(3, 701).code(Rig.SETS, 1, 0, 3, 3).steps(1).dueException(8).dueA(3, 701);
        });
    }
}
