import java.util.ArrayDeque;
import java.util.Deque;

/**
 * A second writing of the document, made apart from the program and as unlike it as may be: both stack
 * pointers have places of their own, flags are booleans, values are unsigned longs, and a failed access
 * is thrown. RandomRunsTest compares the two.
 */
final class Model {
    /** An access that failed. */
    private static final class Fault extends Exception {
        private static final long serialVersionUID = 1;
        final int kind;
        final long address;
        final boolean reading;

        Fault(int kind, long address, boolean reading) {
            super("fault", null, false, false);
            this.kind = kind;
            this.address = address;
            this.reading = reading;
        }
    }

    /** An exception that an instruction asks for. */
    private static final class Trap extends Exception {
        private static final long serialVersionUID = 1;
        final int number;

        Trap(int number) {
            super("trap", null, false, false);
            this.number = number;
        }
    }

    private static final long M32 = 0xFFFFFFFFL;
    private static final String DATA = "0 2 3 4 5 60 61 62 63";
    private static final String ALTERABLE = "0 2 3 4 5 60 61";
    private static final String PLACES = "2 5 60 61 63";
    private static final String ANY = "0 1 2 3 4 5 60 61 62 63";

    final int[] memory = new int[1024];
    final long[] d = new long[8];
    final long[] a = new long[7];
    long user, supervisor, pc;
    boolean t, s = true, x, n, z, v, c;
    int mask = 7;
    boolean stopped, halted;
    int steps, bytesGone, latest, exceptions;

    int reload, count = 256;
    boolean runs, due;
    Integer came;
    boolean lost;
    int sending = -1, sendingSince;
    final Deque<Integer> gone = new ArrayDeque<>();

    private int first;
    private int op, size, r, m, q;
    private long place, immediate;

    // ---- the calls, with arguments that are in range

    int getStatus() {
        return (t ? 32768 : 0) + (s ? 8192 : 0) + mask * 256 + (x ? 16 : 0) + (n ? 8 : 0) + (z ? 4 : 0)
            + (v ? 2 : 0) + (c ? 1 : 0);
    }

    void setStatus(long w) {
        t = bit(w, 15);
        s = bit(w, 13);
        mask = (int) (w / 256 % 8);
        x = bit(w, 4);
        n = bit(w, 3);
        z = bit(w, 2);
        v = bit(w, 1);
        c = bit(w, 0);
    }

    int getRegister(int k) {
        if (k < 8) return (int) d[k];
        if (k < 16) return (int) areg(k - 8);
        if (k == 16) return (int) (s ? user : supervisor);
        if (k == 17) return (int) pc;
        return getStatus();
    }

    void setRegister(int k, int value) {
        long w = value & M32;
        if (k < 8) d[k] = w;
        else if (k < 16) setAreg(k - 8, w);
        else if (k == 16 && s) user = w;
        else if (k == 16) supervisor = w;
        else pc = w;
    }

    int peekWord(int at) {
        return memory[at] * 256 + memory[at + 1];
    }

    void pokeWord(int at, int w) {
        memory[at] = w / 256;
        memory[at + 1] = w % 256;
    }

    int runSteps(int number) {
        int done = 0;
        for (int i = 0; i < number; i++) {
            steps++;
            if (!halted && step()) done++;
        }
        return done;
    }

    boolean byteComes(int b) {
        if (came != null) {
            lost = true;
            return false;
        }
        came = b;
        return true;
    }

    int resetAll() {
        stopped = false;
        halted = false;
        s = true;
        t = false;
        mask = 7;
        supervisor = (long) peekWord(0) * 65536 + peekWord(2);
        pc = (long) peekWord(4) * 65536 + peekWord(6);
        reload = 0;
        count = 256;
        runs = false;
        due = false;
        came = null;
        lost = false;
        sending = -1;
        return (int) pc;
    }

    int goneBefore(int i) {
        if (i < 0 || i >= 16 || i >= gone.size()) return -1;
        return (Integer) gone.toArray()[i];
    }

    int tell(int what) {
        int[] answers = {halted ? 2 : stopped ? 1 : 0, steps, bytesGone, count, latest, exceptions};
        return what < 0 || what > 5 ? -1 : answers[what];
    }

    // ---- a step

    private boolean step() {
        if (runs) {
            count -= 1;
            if (count == 0) {
                due = true;
                count = reload == 0 ? 256 : reload;
            }
        }
        if (sending >= 0 && steps - sendingSince == 8) {
            gone.addFirst(sending);
            bytesGone++;
            sending = -1;
        }
        first = 0;
        if (came != null && mask < 4) {
            stopped = false;
            exception(28, pc, null);
            return true;
        }
        if (due && mask < 2) {
            stopped = false;
            exception(26, pc, null);
            return true;
        }
        if (stopped) return false;
        boolean traced = t;
        long start = pc;
        int ended = 0;
        try {
            first = (int) fetch();
            instruction();
        } catch (Fault f) {
            ended = exception(f.kind, pc, f);
        } catch (Trap e) {
            ended = exception(e.number, e.number == 4 || e.number == 8 ? start : pc, null);
        }
        if (traced && !stopped && !halted && ended != 2 && ended != 3 && ended != 4 && ended != 8) {
            exception(9, pc, null);
        }
        return true;
    }

    /** The exception that came last, as one may follow. */
    private int exception(int e, long back, Fault f) {
        latest = e;
        exceptions++;
        try {
            int old = getStatus();
            s = true;
            t = false;
            if (e == 26) mask = 2;
            if (e == 28) mask = 4;
            push(4, back);
            push(2, old);
            if (f != null) {
                push(2, first);
                push(4, f.address);
                push(2, f.reading ? 1 : 0);
            }
            pc = read(4L * e, 4);
            return e;
        } catch (Fault again) {
            if (f == null) return exception(again.kind, pc, again);
            latest = again.kind;
            exceptions++;
            halted = true;
            return again.kind;
        }
    }

    // ---- accesses

    private void look(long at, int bytes, boolean reading) throws Fault {
        if (bytes > 1 && at % 2 == 1) throw new Fault(3, at, reading);
        if (at + bytes > 1024 && !(bytes == 1 && at >= 61440 && at < 61444)) throw new Fault(2, at, reading);
    }

    private long read(long at, int bytes) throws Fault {
        look(at, bytes, true);
        if (at == 61440) return count % 256;
        if (at == 61441) return (runs ? 1 : 0) + (due ? 2 : 0);
        if (at == 61442) {
            int b = came == null ? 0 : came;
            came = null;
            return b;
        }
        if (at == 61443) return (came != null ? 1 : 0) + (lost ? 2 : 0) + (sending < 0 ? 4 : 0);
        long value = 0;
        for (int i = 0; i < bytes; i++) value = value * 256 + memory[(int) at + i];
        return value;
    }

    private void write(long at, int bytes, long value) throws Fault {
        look(at, bytes, false);
        int low = (int) (value & 255);
        if (at == 61440) {
            reload = low;
            count = low == 0 ? 256 : low;
        } else if (at == 61441) {
            runs = low % 2 == 1;
            if (bit(low, 1)) due = false;
        } else if (at == 61442) {
            if (sending < 0) {
                sending = low;
                sendingSince = steps;
            }
        } else if (at == 61443) {
            if (bit(low, 1)) lost = false;
        } else {
            for (int i = 0; i < bytes; i++) memory[(int) at + i] = (int) (value >> 8 * (bytes - 1 - i) & 255);
        }
    }

    private long fetch() throws Fault {
        long w = read(pc, 2);
        pc = pc + 2 & M32;
        return w;
    }

    private long fetchSigned() throws Fault {
        return (short) fetch();
    }

    private long fetchLong() throws Fault {
        long high = fetch();
        return high * 65536 + fetch();
    }

    private void push(int bytes, long value) throws Fault {
        setAreg(7, areg(7) - bytes);
        write(areg(7), bytes, value);
    }

    private long pop(int bytes) throws Fault {
        long value = read(areg(7), bytes);
        setAreg(7, areg(7) + bytes);
        return value;
    }

    private long areg(int k) {
        return k < 7 ? a[k] : s ? supervisor : user;
    }

    private void setAreg(int k, long value) {
        long w = value & M32;
        if (k < 7) a[k] = w;
        else if (s) supervisor = w;
        else user = w;
    }

    private static boolean bit(long w, int k) {
        return (w >> k & 1) == 1;
    }

    // ---- instructions

    private void allow(boolean ok) throws Trap {
        if (!ok) throw new Trap(4);
    }

    private void right() throws Trap {
        if (!s) throw new Trap(8);
    }

    private void operand(String kinds) throws Trap, Fault {
        String own = m == 6 ? "6" + q : "" + m;
        boolean found = false;
        for (String k : kinds.split(" ")) found |= k.equals(own);
        allow(found);
        if (op == 26) right();
        int bytes = bytes();
        int grow = bytes == 1 && q == 7 ? 2 : bytes;
        if (m == 2) place = areg(q);
        if (m == 3) {
            place = areg(q);
            setAreg(q, place + grow);
        }
        if (m == 4) {
            setAreg(q, areg(q) - grow);
            place = areg(q);
        }
        if (m == 5) place = areg(q) + fetchSigned();
        if (m == 6 && q == 0) place = fetchSigned();
        if (m == 6 && q == 1) place = fetchLong();
        if (m == 6 && q == 2) immediate = size == 2 ? fetchLong() : fetch() & limit();
        if (m == 6 && q == 3) {
            long base = pc;
            place = base + fetchSigned();
        }
        place &= M32;
    }

    private long readOperand() throws Fault {
        if (m == 0) return d[q] & limit();
        if (m == 1) return areg(q) & limit();
        if (m == 6 && q == 2) return immediate;
        return read(place, bytes());
    }

    private void writeOperand(long value) throws Fault {
        if (m == 0) putD(q, value);
        else write(place, bytes(), value);
    }

    private int bytes() {
        return size == 0 ? 1 : size == 1 ? 2 : 4;
    }

    private int bits() {
        return 8 * bytes();
    }

    private long limit() {
        return (1L << bits()) - 1;
    }

    private long signed(long value) {
        return bit(value, bits() - 1) ? value - (1L << bits()) : value;
    }

    private void putD(int k, long value) {
        d[k] = d[k] / (limit() + 1) * (limit() + 1) + (value & limit());
    }

    private void nz(long value) {
        n = bit(value, bits() - 1);
        z = (value & limit()) == 0;
        v = false;
        c = false;
    }

    private long add(long p, long o) {
        long all = p + o;
        long signedAll = signed(p) + signed(o);
        nz(all);
        c = all > limit();
        x = c;
        v = signedAll != signed(all & limit());
        return all & limit();
    }

    private long subtract(long p, long o, boolean keepX) {
        long signedAll = signed(p) - signed(o);
        long all = p - o & limit();
        nz(all);
        c = p < o;
        if (!keepX) x = c;
        v = signedAll != signed(all);
        return all;
    }

    private void instruction() throws Trap, Fault {
        op = first / 2048;
        size = first / 512 % 4;
        r = first / 64 % 8;
        m = first / 8 % 8;
        q = first % 8;
        if (op == 30 || op == 31) throw new Trap(4);
        if (op == 21) branch();
        else if (op == 24) control();
        else if (op == 25) throw new Trap(32 + q + (m % 2 == 1 ? 8 : 0));
        else if (op == 28) other();
        else {
            allow(size != 3);
            if (op == 17) shift();
            else if (op <= 8) toD();
            else if (op == 11) adda();
            else if (op <= 16 && op != 12) toOperand();
            else if (op == 12 || op == 22 || op == 23) place();
            else words();
        }
    }

    private void toD() throws Trap, Fault {
        if (op == 1) {
            operand(ALTERABLE);
            writeOperand(d[r]);
            nz(d[r]);
            return;
        }
        if (op == 2) allow(size != 0);
        operand(op >= 6 || size == 0 ? DATA : ANY);
        long value = readOperand();
        long own = d[r] & limit();
        switch (op) {
            case 0: putD(r, value); nz(value); break;
            case 2: setAreg(r, signed(value)); break;
            case 3: putD(r, add(own, value)); break;
            case 4: putD(r, subtract(own, value, false)); break;
            case 5: subtract(own, value, true); break;
            case 6: putD(r, own & value); nz(own & value); break;
            case 7: putD(r, own | value); nz(own | value); break;
            default: putD(r, own ^ value); nz(own ^ value); break;
        }
    }

    private void adda() throws Trap, Fault {
        allow(size != 0);
        operand(ANY);
        long value = signed(readOperand());
        setAreg(r, areg(r) + value);
    }

    private void toOperand() throws Trap, Fault {
        operand(op == 14 ? DATA : ALTERABLE);
        if (op == 13) {
            writeOperand(0);
            nz(0);
            return;
        }
        long value = readOperand();
        long own = d[r] & limit();
        switch (op) {
            case 9: writeOperand(add(value, own)); break;
            case 10: writeOperand(subtract(value, own, false)); break;
            case 14: nz(value); break;
            case 15: writeOperand(subtract(0, value, false)); break;
            default: writeOperand(limit() - value); nz(limit() - value); break;
        }
    }

    private void place() throws Trap, Fault {
        allow(size == 2);
        operand(PLACES);
        if (op == 12) {
            setAreg(r, place);
            return;
        }
        long to = place;
        if (op == 23) push(4, pc);
        pc = to;
    }

    private void words() throws Trap, Fault {
        allow(size == 1);
        operand(op == 27 ? ALTERABLE : DATA);
        if (op == 27) {
            writeOperand(getStatus());
            return;
        }
        long value = readOperand();
        switch (op) {
            case 18: multiply(value); break;
            case 19: divide(d[r], value, 0, 65535); break;
            case 20: divide((int) d[r], signed(value), -32768, 32767); break;
            case 26: setStatus(value); break;
            default: check(signed(d[r] & 65535), signed(value)); break;
        }
    }

    private void multiply(long value) {
        d[r] = (d[r] & 65535) * value;
        size = 2;
        nz(d[r]);
    }

    private void divide(long p, long o, long least, long most) throws Trap {
        if (o == 0) throw new Trap(5);
        long quotient = Math.abs(p) / Math.abs(o) * Long.signum(p) * Long.signum(o);
        if (quotient < least || quotient > most) {
            v = true;
            c = false;
            return;
        }
        long rest = p - quotient * o;
        d[r] = (rest & 65535) * 65536 + (quotient & 65535);
        nz(quotient);
    }

    private void check(long own, long most) throws Trap {
        if (own < 0) {
            n = true;
            throw new Trap(6);
        }
        if (own > most) {
            n = false;
            throw new Trap(6);
        }
    }

    private void shift() throws Trap {
        allow(m <= 5);
        int by = q == 0 ? 8 : q;
        long old = d[r] & limit();
        boolean left = m % 2 == 0;
        // the bits in a row, so that those which go out and come in can be picked from it
        long now;
        if (m == 0 || m == 2) now = old << by & limit();
        else if (m == 1) now = signed(old) >> by & limit();
        else if (m == 3) now = old >> by;
        else if (m == 4) now = (old << by % bits() | old >> bits() - by % bits()) & limit();
        else now = (old >> by % bits() | old << bits() - by % bits()) & limit();
        boolean last = left ? bit(old, bits() - by) : bit(old, by - 1);
        boolean changes = false;
        for (int i = 1; i <= by; i++) changes |= bit(old << i, bits() - 1) != bit(old, bits() - 1);
        putD(r, now);
        nz(now);
        c = last;
        if (m < 4) x = last;
        v = m == 0 && changes;
    }

    private void branch() throws Trap, Fault {
        int condition = size * 8 + r;
        allow(condition < 16);
        long base = pc;
        long to = base + fetchSigned() & M32;
        boolean[] met = {true, true, !c && !z, c || z, !c, c, !z, z, !v, v, !n, n, n == v, n != v,
            n == v && !z, n != v || z};
        if (condition == 1) push(4, pc);
        if (met[condition]) pc = to;
    }

    private void control() throws Trap, Fault {
        allow(q < 5);
        if (q == 1) pc = pop(4);
        if (q == 2) {
            right();
            long w = pop(2);
            pc = pop(4);
            setStatus(w);
        }
        if (q == 3) {
            right();
            setStatus(fetch());
            stopped = true;
        }
        if (q == 4 && v) throw new Trap(7);
    }

    private void other() throws Trap {
        right();
        if (m == 0) user = areg(q);
        else setAreg(q, user);
    }
}
