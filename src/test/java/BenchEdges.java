import java.util.Arrays;

/** The edges of the bench as a whole: its last calls, its constant, and promise 1. */
final class BenchEdges {
    private BenchEdges() {
    }

    /** 24 calls, 161 times three, and five: the last one is call 512. */
    @Sentence(of = "What it is", says = "An object is used for at most 512 calls after it has been made")
    static void theLastCallOnANecklace() {
        ShareBench x = Bench.strung("000000111111222222333333");
        for (int turn = 0; turn < 161; turn++) {
            x.beads(23);
            Due.is("turn " + turn + ": bead", x.bead(3), 24);
            Due.is("turn " + turn + ": least", x.least(), 4);
        }
        for (int k = 0; k < 4; k++) {
            Due.is("call " + (508 + k) + ": cut", x.cut(k), 3 + 6 * k);
        }
        Due.is("call 512: rows", x.rows(), 1);
    }

    /** One call, 254 times two, and three. With a 2 at (1, 1) the walk ends three thirds earlier. */
    @Sentence(of = "What it is", says = "at most 512 calls after it has been made")
    static void theLastCallOnANet() {
        ShareBench x = new ShareBench();
        x.net(20);
        for (int turn = 0; turn < 254; turn++) {
            x.mark(1, 1, turn % 2 == 0 ? 0 : 2);
            Due.is("turn " + turn + ": walk", x.walk(0), turn % 2 == 0 ? 39 : 36);
        }
        Due.is("call 510: ended(1)", x.ended(1), 0);
        Due.is("call 511: ended(2)", x.ended(2), 1);
        Due.is("call 512: ended(3)", x.ended(3), 1);
    }

    /** 27 calls, 242 times two, and one. */
    @Sentence(of = "What it is", says = "512 calls after it has been made")
    static void theLastCallOnRooms() {
        int[][] worths = new int[5][5];
        worths[4][4] = 1000;
        ShareBench x = Bench.housed(100, worths);
        for (int worth = 0; worth < 242; worth++) {
            x.room(3, 4, worth);
            Due.is("worth " + worth + ": price", x.price(4), 100 + 4 * worth);
        }
        Due.is("call 512: check", x.check(), 0);
    }

    /** 152 calls, 179 times two, and two. */
    @Sentence(of = "What it is", says = "512 calls")
    static void theLastCallOnALine() {
        int[][] worths = new int[5][30];
        for (int[] row : worths) {
            Arrays.fill(row, 30);
        }
        ShareBench x = Bench.lined(worths);
        for (int turn = 0; turn < 179; turn++) {
            x.stretch(4, 29, turn % 2 == 0 ? 30 : 29);
            Due.is("turn " + turn + ": who", x.who(0), turn % 2 == 0 ? 0 : 4);
        }
        Due.is("call 511: place", x.place(0, 0), 6);
        Due.is("call 512: place", x.place(0, 1), 1);
    }

    @Sentence(of = "The public face", says = "public static final int NONE = -1;")
    static void none() {
        Due.is("NONE", ShareBench.NONE, -1);
    }

    @Sentence(of = "Promise 1", says = "No BEADS")
    static void noBeads() {
        ShareBench x = new ShareBench();
        for (int sort = 0; sort < 4; sort++) {
            Due.is("new: count(" + sort + ")", x.count(sort), 0);
        }
        Due.is("new: beads(1)", x.beads(1), false);
        Due.is("new: beads(0)", x.beads(0), true);
        Due.is("new: least()", x.least(), -1);
        Due.is("new: rows()", x.rows(), -1);
        Due.is("new: cut(0)", x.cut(0), -1);
        Due.is("new: halves(0)", x.halves(0), -1);
        Due.is("new: bead(3)", x.bead(3), 1);
    }

    @Sentence(of = "Promise 1", says = "a NET of size 1")
    static void netOfOne() {
        ShareBench x = new ShareBench();
        Due.is("new: marked(0, 0)", x.marked(0, 0), 2);
        Due.is("new: marked(1, 0)", x.marked(1, 0), 0);
        Due.is("new: marked(0, 1)", x.marked(0, 1), 1);
        Due.is("new: marked(1, 1)", x.marked(1, 1), -1);
        Due.is("new: marked(2, 0)", x.marked(2, 0), -1);
        Due.is("new: marked(0, 2)", x.marked(0, 2), -1);
        Due.is("new: all()", x.all(), 1);
        Due.is("new: doors()", x.doors(), 1);
        Due.is("new: doorsAll()", x.doorsAll(), 1);
        Due.is("new: ended(0)", x.ended(0), -1);
        Due.is("new: walk(1)", x.walk(1), -1);
        Due.is("new: walk(0)", x.walk(0), 1);
    }

    @Sentence(of = "Promise 1", says = "one person")
    static void onePerson() {
        ShareBench x = new ShareBench();
        Due.is("new: has(0)", x.has(0), 0);
        Due.is("new: has(1)", x.has(1), -1);
        Due.is("new: grudge(0, 0)", x.grudge(0, 0), 0);
        Due.is("new: grudge(0, 1)", x.grudge(0, 1), Long.MIN_VALUE);
        Due.is("new: who(0)", x.who(0), 0);
        Due.is("new: who(1)", x.who(1), -1);
        Due.is("new: envies(0)", x.envies(0), 0);
        Due.is("new: envies(1)", x.envies(1), -1);
        Due.is("new: worth(1, 0, 0)", x.worth(1, 0, 0), -1);
        Due.is("new: room(1, 0, 0)", x.room(1, 0, 0), false);
        Due.is("new: stretch(1, 0, 0)", x.stretch(1, 0, 0), false);
    }

    @Sentence(of = "Promise 1", says = "one ROOM")
    static void oneRoom() {
        ShareBench x = new ShareBench();
        Due.is("new: best()", x.best(), 0);
        Due.is("new: price(0)", x.price(0), 0);
        Due.is("new: price(1)", x.price(1), Long.MIN_VALUE);
        Due.is("new: check()", x.check(), 0);
        Due.is("new: turned(1, 0)", x.turned(1, 0), false);
        Due.is("new: turned(0, 0)", x.turned(0, 0), true);
        Due.is("new: room(0, 1, 0)", x.room(0, 1, 0), false);
        Due.is("new: room(0, 0, 0)", x.room(0, 0, 0), true);
    }

    @Sentence(of = "Promise 1", says = "one STRETCH")
    static void oneStretch() {
        ShareBench x = new ShareBench();
        Due.is("new: place(0, 0)", x.place(0, 0), 1);
        Due.is("new: place(0, 1)", x.place(0, 1), 1);
        Due.is("new: worth(0, 0, 0)", x.worth(0, 0, 0), 0);
        Due.is("new: worth(0, 0, 1)", x.worth(0, 0, 1), 1);
        Due.is("new: stretch(0, 1, 1)", x.stretch(0, 1, 1), false);
        Due.is("new: stretch(0, 0, 1)", x.stretch(0, 0, 1), true);
    }
}
