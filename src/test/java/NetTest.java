import java.util.ArrayList;
import java.util.HashSet;
import java.util.List;
import java.util.Set;

/** Promises 9 to 16, by hand and against a net held as a plain list of thirds. */
public final class NetTest {
    public static void main(String[] args) {
        sizes();
        marksAtFirst();
        marking();
        walkOut();
        walkIsForgotten();
        for (int turn = 0; turn < 600; turn++) {
            againstList(1 + Due.pick(20), Due.pick(3));
        }
        Due.end();
    }

    private static void sizes() {
        ShareBench x = new ShareBench();
        for (int wrong : new int[] {0, -1, 21, Integer.MAX_VALUE, Integer.MIN_VALUE}) {
            Due.is("net(" + wrong + ")", x.net(wrong), false);
        }
        Due.is("marked(1, 0) after refusals", x.marked(1, 0), 0);
        Due.is("marked(2, 0) after refusals", x.marked(2, 0), -1);
        Due.is("net(20)", x.net(20), true);
        Due.is("marked(20, 0)", x.marked(20, 0), 0);
        Due.is("marked(0, 20)", x.marked(0, 20), 1);
        Due.is("marked(21, 0)", x.marked(21, 0), -1);
        Due.is("net(1)", x.net(1), true);
        Due.is("marked(20, 0) of net 1", x.marked(20, 0), -1);
    }

    private static void marksAtFirst() {
        ShareBench x = new ShareBench();
        x.net(3);
        for (int a = 0; a <= 3; a++) {
            for (int b = 0; a + b <= 3; b++) {
                Due.is("at first (" + a + ", " + b + ")", x.marked(a, b), a > 0 ? 0 : b > 0 ? 1 : 2);
            }
        }
        x.mark(1, 1, 2);
        Due.is("marked(1, 1)", x.marked(1, 1), 2);
        x.net(3);
        Due.is("marked(1, 1) anew", x.marked(1, 1), 0);
        x.mark(2, 0, 2);
        x.mark(0, 2, 2);
        x.net(2);
        Due.is("marked(2, 0), a corner now", x.marked(2, 0), 0);
        Due.is("marked(0, 2), a corner now", x.marked(0, 2), 1);
    }

    private static void marking() {
        ShareBench x = new ShareBench();
        x.net(3);
        for (int mark = 0; mark < 3; mark++) {
            Due.is("inside", x.mark(1, 1, mark), true);
            Due.is("inside is marked", x.marked(1, 1), mark);
        }
        Due.is("mark 3", x.mark(1, 1, 3), false);
        Due.is("mark -1", x.mark(1, 1, -1), false);
        Due.is("kept", x.marked(1, 1), 2);
        Due.is("x is 0", x.mark(0, 1, 0), false);
        Due.is("y is 0", x.mark(1, 0, 1), false);
        Due.is("z is 0", x.mark(1, 2, 2), false);
        Due.is("the corner of x", x.mark(3, 0, 0), true);
        Due.is("the corner of x as y", x.mark(3, 0, 1), false);
        Due.is("the corner of x as z", x.mark(3, 0, 2), false);
        int[][] outside = {{-1, 1}, {1, -1}, {2, 2}, {4, 0}, {0, 4}, {4, -1}, {Integer.MAX_VALUE, Integer.MAX_VALUE},
            {Integer.MAX_VALUE, 1}, {1, Integer.MAX_VALUE}, {Integer.MIN_VALUE, 0}, {0, Integer.MIN_VALUE},
            {Integer.MIN_VALUE, Integer.MIN_VALUE}, {Integer.MAX_VALUE, Integer.MIN_VALUE}};
        for (int[] point : outside) {
            for (int mark = 0; mark < 3; mark++) {
                Due.is("mark outside", x.mark(point[0], point[1], mark), false);
            }
            Due.is("marked outside", x.marked(point[0], point[1]), -1);
        }
    }

    /** On z = 0 the marks from x = 0 on are 1, 0, 1, 0: three doors, two of them joined by a walk. */
    private static void walkOut() {
        ShareBench x = new ShareBench();
        x.net(3);
        x.mark(2, 1, 1);
        x.mark(1, 1, 2);
        x.mark(0, 2, 2);
        x.mark(0, 1, 2);
        Due.is("out: doors", x.doors(), 3);
        Due.is("out: doorsAll", x.doorsAll(), 4);
        Due.is("out: all", x.all(), 3);
        Due.is("out: walk(0)", x.walk(0), 1);
        Due.is("out: ended(0)", x.ended(0), 1);
        Due.is("out: ended(4) inside", x.ended(4), -1);
        x.mark(1, 1, 1);
        Due.is("out: doors again", x.doors(), 3);
        Due.is("out: walk(1) to the full", x.walk(1), 2);
        Due.is("out: walk(0) to the full", x.walk(0), 1);
        x.mark(0, 2, 1);
        Due.is("out: walk(0) out", x.walk(0), 3);
        Due.is("out: ended(0) out", x.ended(0), 0);
        Due.is("out: ended(1)", x.ended(1), 1);
        Due.is("out: ended(2)", x.ended(2), 1);
        Due.is("out: ended(3)", x.ended(3), 0);
        Due.is("out: ended(4)", x.ended(4), 1);
        Due.is("out: ended(5)", x.ended(5), -1);
        Due.is("out: ended(-1)", x.ended(-1), -1);
        Due.is("out: walk(1) back", x.walk(1), 3);
        Due.is("out: ended(4) back", x.ended(4), 0);
        Due.is("out: ended(1) back", x.ended(1), 0);
        Due.is("out: ended(2) back", x.ended(2), 2);
        Due.is("out: walk(3)", x.walk(3), -1);
        Due.is("out: walk(-1)", x.walk(-1), -1);
        Due.is("out: walk(max)", x.walk(Integer.MAX_VALUE), -1);
        Due.is("out: walk(min)", x.walk(Integer.MIN_VALUE), -1);
        Due.is("out: ended(4) is kept", x.ended(4), 0);
    }

    private static void walkIsForgotten() {
        ShareBench x = new ShareBench();
        x.net(2);
        Due.is("ahead of a walk", x.ended(3), -1);
        Due.is("no door", x.walk(1), -1);
        Due.is("ahead of a walk still", x.ended(0), -1);
        x.walk(0);
        x.mark(0, 0, 0);
        x.net(0);
        Due.is("refusals change nothing", x.ended(0), 1);
        x.mark(0, 0, 2);
        for (int what = 0; what < 5; what++) {
            Due.is("marked as it was: ended(" + what + ")", x.ended(what), -1);
        }
        x.walk(0);
        Due.is("walked again", x.ended(0), 1);
        x.net(2);
        Due.is("a new net of that size", x.ended(0), -1);
    }

    /** A third of the list: what tells it, and its points as numbers x * 100 + y. */
    private record Third(int x, int y, int kind, int[] points) {
    }

    private static void againstList(int size, int way) {
        ShareBench bench = new ShareBench();
        bench.net(size);
        int[] marks = new int[2200];
        for (int x = 0; x <= size; x++) {
            for (int y = 0; x + y <= size; y++) {
                markByChance(bench, marks, size, new int[] {x, y, size - x - y}, way);
            }
        }
        List<Third> thirds = thirdsOf(size);
        String name = "net of " + size;
        Due.is(name + " all", bench.all(), countFull(thirds, marks));
        Set<Integer> doors = new HashSet<>();
        int outer = 0;
        for (Third third : thirds) {
            for (int side = 0; side < 3; side++) {
                if (isDoor(third, side, marks) && doors.add(key(third, side))) {
                    outer += isOuter(third, side, size) ? 1 : 0;
                }
            }
        }
        Due.is(name + " doorsAll", bench.doorsAll(), doors.size());
        Due.is(name + " doors", bench.doors(), outer);
        for (int door = 0; door < size; door++) {
            compareWalk(bench, thirds, marks, size, door);
        }
    }

    /** Way 0: any mark that may be; 1: seldom a 2, for long walks; 2: hardly any but 0 and 1. */
    private static void markByChance(ShareBench bench, int[] marks, int size, int[] point, int way) {
        int mark = Due.pick(3);
        if (way > 0 && mark == 2 && Due.pick(way == 1 ? 4 : 60) > 0) {
            mark = Due.pick(2);
        }
        for (int turn = 0; turn < 3 && point[mark] == 0; turn++) {
            mark = (mark + 1) % 3;
        }
        marks[point[0] * 100 + point[1]] = mark;
        Due.is("mark", bench.mark(point[0], point[1], mark), true);
    }

    private static List<Third> thirdsOf(int size) {
        List<Third> thirds = new ArrayList<>();
        for (int x = 0; x < size; x++) {
            for (int y = 0; x + y < size; y++) {
                int at = x * 100 + y;
                thirds.add(new Third(x, y, 0, new int[] {at, at + 100, at + 1}));
                if (x + y < size - 1) {
                    thirds.add(new Third(x, y, 1, new int[] {at + 100, at + 1, at + 101}));
                }
            }
        }
        return thirds;
    }

    private static int countFull(List<Third> thirds, int[] marks) {
        int full = 0;
        for (Third third : thirds) {
            Set<Integer> seen = new HashSet<>();
            for (int point : third.points) {
                seen.add(marks[point]);
            }
            full += seen.size() == 3 ? 1 : 0;
        }
        return full;
    }

    private static int key(Third third, int side) {
        int one = third.points[side];
        int other = third.points[(side + 1) % 3];
        return Math.min(one, other) * 10000 + Math.max(one, other);
    }

    private static boolean isDoor(Third third, int side, int[] marks) {
        int key = key(third, side);
        Set<Integer> both = Set.of(0, 1);
        return marks[key / 10000] != marks[key % 10000] && both.contains(marks[key / 10000])
            && both.contains(marks[key % 10000]);
    }

    private static boolean isOuter(Third third, int side, int size) {
        int key = key(third, side);
        int one = key / 10000;
        int other = key % 10000;
        return one / 100 + one % 100 == size && other / 100 + other % 100 == size;
    }

    private static void compareWalk(ShareBench bench, List<Third> thirds, int[] marks, int size, int door) {
        int key = (door * 100 + size - door) * 10000 + (door + 1) * 100 + size - door - 1;
        Third at = null;
        Third next = across(thirds, marks, null, key);
        int gone = 0;
        int out = -1;
        while (next != null) {
            at = next;
            gone++;
            int through = -1;
            for (int side = 0; side < 3; side++) {
                if (isDoor(at, side, marks) && key(at, side) != key) {
                    through = key(at, side);
                }
            }
            next = through == -1 ? null : across(thirds, marks, at, through);
            out = through != -1 && next == null ? through / 10000 / 100 : -1;
            key = through;
        }
        String name = "net of " + size + ", door " + door;
        Due.is(name + " walk", bench.walk(door), at == null ? -1 : gone);
        if (at != null) {
            int[] want = {out == -1 ? 1 : 0, at.x, at.y, at.kind, out};
            for (int what = 0; what < 5; what++) {
                Due.is(name + " ended(" + what + ")", bench.ended(what), want[what]);
            }
        }
    }

    /** The third on the other side of a door, null if there is none. */
    private static Third across(List<Third> thirds, int[] marks, Third from, int key) {
        for (Third third : thirds) {
            for (int side = 0; side < 3; side++) {
                if (third != from && key(third, side) == key && isDoor(third, side, marks)) {
                    return third;
                }
            }
        }
        return null;
    }
}
