import java.util.Set;
import java.util.TreeSet;
import java.util.function.Supplier;

/** Benches with something on each part of them, and what all of such a bench tells. */
final class Bench {
    /** A call on a bench; a boolean answer counts 1 or 0. */
    interface Call {
        long on(ShareBench x);
    }

    private Bench() {
    }

    static long told(boolean answer) {
        return answer ? 1 : 0;
    }

    /** Numbers outside least .. most: next to it, far off, and such as fall into it where bits are cut off. */
    static int[] outside(int least, int most) {
        int[] some = {least - 1, least - 2, most + 1, most + 2, least - 256, most + 256, least + 65536, most - 65536,
            least + (1 << 30), most - (1 << 30), Integer.MIN_VALUE, Integer.MIN_VALUE + most, Integer.MAX_VALUE,
            Integer.MAX_VALUE - most};
        Set<Integer> kept = new TreeSet<>();
        for (int number : some) {
            if (number < least || number > most) {
                kept.add(number);
            }
        }
        return kept.stream().mapToInt(Integer::intValue).toArray();
    }

    static ShareBench strung(String sorts) {
        ShareBench x = new ShareBench();
        for (int k = 0; k < sorts.length(); k++) {
            x.bead(sorts.charAt(k) - '0');
        }
        return x;
    }

    static ShareBench housed(int rent, int[][] worths) {
        ShareBench x = new ShareBench();
        x.people(worths.length);
        x.rent(rent);
        for (int p = 0; p < worths.length; p++) {
            for (int r = 0; r < worths.length; r++) {
                x.room(p, r, worths[p][r]);
            }
        }
        return x;
    }

    static ShareBench lined(int[][] worths) {
        ShareBench x = new ShareBench();
        x.people(worths.length);
        x.line(worths[0].length);
        for (int p = 0; p < worths.length; p++) {
            for (int k = 0; k < worths[p].length; k++) {
                x.stretch(p, k, worths[p][k]);
            }
        }
        return x;
    }

    /** Five beads, a net of 3 with a walk that went out, three people, rents with something more, four stretches. */
    static ShareBench busy() {
        ShareBench x = housed(100, new int[][] {{40, 70, 10}, {35, 80, 20}, {50, 60, 5}});
        x.line(4);
        int[][] worths = {{3, 0, 5, 2}, {1, 7, 0, 4}, {6, 6, 1, 9}};
        for (int p = 0; p < 3; p++) {
            for (int k = 0; k < 4; k++) {
                x.stretch(p, k, worths[p][k]);
            }
        }
        x.net(3);
        x.mark(2, 1, 1);
        x.mark(1, 1, 1);
        x.walk(0);
        for (int sort : new int[] {0, 0, 1, 1, 2}) {
            x.bead(sort);
        }
        x.turned(0, 7);
        x.turned(2, -3);
        return x;
    }

    /** As busy, with all the beads that there may be. */
    static ShareBench full() {
        ShareBench x = busy();
        for (int k = 5; k < 24; k++) {
            x.bead(k % 3);
        }
        return x;
    }

    /** What a bench like the busy one answers to all calls that change nothing. */
    static String all(ShareBench x) {
        StringBuilder text = new StringBuilder("necklace");
        for (int sort = 0; sort < 4; sort++) {
            text.append(' ').append(x.count(sort));
        }
        text.append(" least ").append(x.least()).append(" rows ").append(x.rows()).append(" cuts");
        for (int k = 0; k < 5; k++) {
            text.append(' ').append(x.cut(k)).append('/').append(x.halves(2 << k));
        }
        text.append(" ended");
        for (int what = 0; what < 5; what++) {
            text.append(' ').append(x.ended(what));
        }
        text.append(" net ").append(x.all()).append(' ').append(x.doors()).append(' ').append(x.doorsAll());
        for (int at = 0; at < 16; at++) {
            text.append(' ').append(x.marked(at / 4, at % 4));
        }
        return text.append(allOfRooms(x)).append(allOfLine(x)).toString();
    }

    private static String allOfRooms(ShareBench x) {
        StringBuilder text = new StringBuilder(" rooms ").append(x.best()).append(" check ").append(x.check());
        for (int p = 0; p < 3; p++) {
            text.append(' ').append(x.has(p)).append(' ').append(x.price(p)).append(" grudges");
            for (int other = 0; other < 3; other++) {
                text.append(' ').append(x.grudge(p, other));
            }
        }
        return text.toString();
    }

    private static String allOfLine(ShareBench x) {
        StringBuilder text = new StringBuilder(" line");
        for (int k = 0; k < 3; k++) {
            text.append(' ').append(x.who(k)).append(" envies ").append(x.envies(k)).append(" at ");
            text.append(x.place(k, 0)).append('/').append(x.place(k, 1)).append(" worth");
            for (int p = 0; p < 3; p++) {
                text.append(' ').append(x.worth(p, k, 0)).append('/').append(x.worth(p, k, 1));
            }
        }
        return text.toString();
    }

    /**
     * The call is answered so, and nothing happens: the bench tells what one tells that was not called,
     * whether it had been asked ahead or not, and again behind changes that make it search anew.
     */
    static void changesNothing(Supplier<ShareBench> made, String name, Call call, long want) {
        for (int turn = 0; turn < 2; turn++) {
            ShareBench spared = made.get();
            ShareBench called = made.get();
            if (turn == 1) {
                Due.is(name + ", ahead of it", all(called), all(spared));
            }
            Due.is(name, call.on(called), want);
            Due.is(name + ", behind it", all(called), all(spared));
            change(spared);
            change(called);
            Due.is(name + ", behind a change", all(called), all(spared));
        }
    }

    static void changesNothing(String name, Call call, long want) {
        changesNothing(Bench::busy, name, call, want);
    }

    private static void change(ShareBench x) {
        x.bead(3);
        x.mark(1, 0, 2);
        x.walk(1);
        x.room(1, 2, 90);
        x.stretch(2, 0, 5);
    }
}
