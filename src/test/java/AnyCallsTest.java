/** Any calls with any numbers, some behind the 512th too: none may throw, and the same calls answer the same. */
public final class AnyCallsTest {
    private static final int[] FAR = {Integer.MIN_VALUE, Integer.MAX_VALUE, -1, 5, 20, 21, 24, 30, 31, 1000, 10000,
        100000, -100000, 1 << 23, (1 << 24) - 2};

    public static void main(String[] args) {
        for (int turn = 0; turn < 200; turn++) {
            ShareBench one = new ShareBench();
            ShareBench other = new ShareBench();
            for (int call = 0; call < 600; call++) {
                int which = Due.pick(30);
                int a = number(which);
                int b = number(which);
                int c = number(which);
                String name = "call " + which + " (" + a + ", " + b + ", " + c + ")";
                Due.is(name, answer(one, which, a, b, c), answer(other, which, a, b, c));
            }
        }
        Due.end();
    }

    private static int number(int which) {
        if (Due.pick(6) == 0) {
            return FAR[Due.pick(FAR.length)];
        }
        return Due.pick(which % 2 == 0 ? 5 : 22);
    }

    private static long answer(ShareBench x, int which, int a, int b, int c) {
        if (which < 10) {
            return first(x, which, a, b, c);
        }
        return which < 20 ? second(x, which, a, b, c) : third(x, which, a, b, c);
    }

    private static long first(ShareBench x, int which, int a, int b, int c) {
        switch (which) {
            case 0: return x.bead(a);
            case 1: return x.beads(a) ? 1 : 0;
            case 2: return x.count(a);
            case 3: return x.least();
            case 4: return x.cut(a);
            case 5: return x.rows();
            case 6: return x.halves(a << 1);
            case 7: return x.net(a) ? 1 : 0;
            case 8: return x.mark(a, b, c) ? 1 : 0;
            default: return x.marked(a, b);
        }
    }

    private static long second(ShareBench x, int which, int a, int b, int c) {
        switch (which) {
            case 10: return x.all();
            case 11: return x.doors();
            case 12: return x.doorsAll();
            case 13: return x.walk(a);
            case 14: return x.ended(a);
            case 15: return x.people(a) ? 1 : 0;
            case 16: return x.room(a, b, c) ? 1 : 0;
            case 17: return x.rent(a) ? 1 : 0;
            case 18: return x.best();
            default: return x.has(a);
        }
    }

    private static long third(ShareBench x, int which, int a, int b, int c) {
        switch (which) {
            case 20: return x.price(a);
            case 21: return x.grudge(a, b);
            case 22: return x.turned(a, b) ? 1 : 0;
            case 23: return x.check();
            case 24: return x.line(a) ? 1 : 0;
            case 25: return x.stretch(a, b, c) ? 1 : 0;
            case 26: return x.who(a);
            case 27: return x.place(a, b);
            case 28: return x.worth(a, b, c);
            default: return x.envies(a);
        }
    }
}
