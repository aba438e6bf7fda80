/** The edges of terms 2 and promises 9 to 16. */
final class NetEdges {
    private static final int MOST = 20;
    /** The least and the greatest number for each part of a point, and sums of two that wrap around. */
    private static final int[][] FAR_POINTS = {
        {Integer.MAX_VALUE, Integer.MAX_VALUE}, {Integer.MAX_VALUE, 1}, {1, Integer.MAX_VALUE},
        {Integer.MIN_VALUE, Integer.MIN_VALUE}, {Integer.MIN_VALUE, 0}, {0, Integer.MIN_VALUE},
        {Integer.MAX_VALUE, Integer.MIN_VALUE}, {Integer.MIN_VALUE, Integer.MAX_VALUE}, {1 << 30, 1 << 30},
        {1 << 31, 1 << 31}, {Integer.MAX_VALUE, 2 - Integer.MAX_VALUE}, {256, 0}, {0, 256}, {65536, 0}, {0, 65536}
    };

    private NetEdges() {
    }

    private static ShareBench net(int size) {
        ShareBench x = new ShareBench();
        Due.is("net(" + size + ")", x.net(size), true);
        return x;
    }

    private static void isEnd(String name, ShareBench x, int... ends) {
        for (int what = 0; what < ends.length; what++) {
            Due.is(name + ": ended(" + what + ")", x.ended(what), ends[what]);
        }
    }

    /** A net of 3 on whose side z = 0 the marks are 1, 0, 1, 0, with a walk between the doors 0 and 1. */
    private static ShareBench netWithAWayOut() {
        ShareBench x = net(3);
        x.mark(2, 1, 1);
        x.mark(1, 1, 1);
        return x;
    }

    @Sentence(of = "Terms 2", says = "A NET of size N (1 .. 20)")
    static void leastAndGreatestNet() {
        ShareBench x = net(1);
        Due.is("net 1: marked(1, 0)", x.marked(1, 0), 0);
        Due.is("net 1: marked(2, 0)", x.marked(2, 0), -1);
        x = net(MOST);
        Due.is("net 20: marked(20, 0)", x.marked(20, 0), 0);
        Due.is("net 20: marked(0, 20)", x.marked(0, 20), 1);
        Due.is("net 20: walk(0)", x.walk(0), 39);
        Due.is("net(0)", x.net(0), false);
        Due.is("net(21)", x.net(21), false);
    }

    @Sentence(of = "Terms 2", says = "POINTS x, y, z (0 and more, in sum N)")
    static void pointsOfAllNets() {
        for (int size = 1; size <= MOST; size++) {
            ShareBench x = net(size);
            Due.is(size + ": z is N", x.marked(0, 0), 2);
            Due.is(size + ": x is N", x.marked(size, 0), 0);
            Due.is(size + ": y is N", x.marked(0, size), 1);
            Due.is(size + ": x is above N", x.marked(size + 1, 0), -1);
            Due.is(size + ": y is above N", x.marked(0, size + 1), -1);
            for (int at = 0; at <= size; at++) {
                Due.is(size + ": z is 0", x.marked(at, size - at), at > 0 ? 0 : 1);
                Due.is(size + ": z is below 0", x.marked(at, size - at + 1), -1);
                Due.is(size + ": x is below 0", x.marked(-1, at), -1);
                Due.is(size + ": y is below 0", x.marked(at, -1), -1);
            }
        }
    }

    @Sentence(of = "Terms 2", says = "just with one of whose numbers (0 x, 1 y, 2 z) is above 0")
    static void marksThatAPointMayBear() {
        ShareBench x = net(3);
        for (int a = 0; a <= 3; a++) {
            for (int b = 0; a + b <= 3; b++) {
                int[] numbers = {a, b, 3 - a - b};
                for (int mark = 0; mark < 3; mark++) {
                    String name = "mark(" + a + ", " + b + ", " + mark + ")";
                    Due.is(name, x.mark(a, b, mark), numbers[mark] > 0);
                }
            }
        }
    }

    @Sentence(of = "Terms 2", says = "at first with the least such")
    static void leastMarkAtFirst() {
        for (int size : new int[] {1, 2, 3, MOST}) {
            ShareBench x = net(size);
            for (int a = 0; a <= size; a++) {
                for (int b = 0; a + b <= size; b++) {
                    int least = a > 0 ? 0 : b > 0 ? 1 : 2;
                    Due.is(size + ": marked(" + a + ", " + b + ")", x.marked(a, b), least);
                }
            }
        }
    }

    @Sentence(of = "Terms 2", says = "(told by x, y and 0; x + y below N)")
    static void thirdsAtTheCorners() {
        ShareBench x = net(MOST);
        x.mark(19, 1, 1);
        x.mark(19, 0, 2);
        Due.is("corner of x: walk(19)", x.walk(19), 1);
        isEnd("corner of x", x, 1, 19, 0, 0, -1);
        x = net(MOST);
        x.mark(0, 19, 2);
        Due.is("corner of y: walk(0)", x.walk(0), 1);
        isEnd("corner of y", x, 1, 0, 19, 0, -1);
        x = net(MOST);
        Due.is("corner of z: walk(0)", x.walk(0), 39);
        isEnd("corner of z", x, 1, 0, 0, 0, -1);
        x = net(1);
        Due.is("the only third: walk(0)", x.walk(0), 1);
        isEnd("the only third", x, 1, 0, 0, 0, -1);
    }

    @Sentence(of = "Terms 2", says = "(by x, y and 1; x + y below N - 1)")
    static void thirdsOfTheOtherKind() {
        Due.is("net 1 has none: all()", net(1).all(), 1);
        ShareBench x = net(2);
        x.mark(1, 0, 2);
        Due.is("net 2 has one: all()", x.all(), 1);
        Due.is("net 2 has one: walk(0)", x.walk(0), 2);
        isEnd("net 2 has one", x, 1, 0, 0, 1, -1);
        x = net(MOST);
        x.mark(18, 2, 1);
        x.mark(18, 1, 1);
        x.mark(19, 0, 2);
        Due.is("x + y is N - 2: walk(18)", x.walk(18), 2);
        isEnd("x + y is N - 2", x, 1, 18, 0, 1, -1);
        x = net(MOST);
        x.mark(1, 18, 2);
        Due.is("y is N - 2: walk(0)", x.walk(0), 2);
        isEnd("y is N - 2", x, 1, 0, 18, 1, -1);
    }

    @Sentence(of = "Terms 2", says = "A DOOR is a side of a THIRD whose two POINTS are marked 0 and 1")
    static void whichSidesAreDoors() {
        ShareBench x = net(2);
        // Sides with 0 and 1: (1, 1) with (0, 2), (1, 1) with (0, 1), (1, 0) with (0, 1).
        Due.is("at first: doorsAll()", x.doorsAll(), 3);
        x.mark(1, 0, 2);
        Due.is("1 and 2 are no door: doorsAll()", x.doorsAll(), 2);
        x.mark(0, 1, 2);
        Due.is("0 and 2 are no door: doorsAll()", x.doorsAll(), 1);
        x.mark(1, 1, 1);
        Due.is("0 with 1 at the other end: doorsAll()", x.doorsAll(), 1);
        Due.is("1 and 1 are no door: walk(0)", x.walk(0), -1);
        Due.is("1 and 0 are a door: walk(1)", x.walk(1), 1);
        x.mark(1, 1, 0);
        Due.is("0 and 0 are no door: walk(1)", x.walk(1), -1);
        Due.is("1 and 0 are a door: walk(0)", x.walk(0), 1);
    }

    @Sentence(of = "Terms 2",
        says = "A WALK begins at a DOOR at which z is 0 (its number: the x of the POINT with the lesser x)")
    static void firstAndLastDoor() {
        ShareBench x = net(MOST);
        Due.is("door 0: walk(0)", x.walk(0), 39);
        Due.is("door 0: walk(1)", x.walk(1), -1);
        for (int at = 1; at < MOST; at++) {
            x.mark(at, MOST - at, 1);
            Due.is("door " + at + ": walk(" + at + ") is one", x.walk(at) > 0, true);
            Due.is("door " + at + ": walk(" + (at - 1) + ")", x.walk(at - 1), -1);
            Due.is("door " + at + ": walk(" + (at + 1) + ")", x.walk(at + 1), -1);
        }
    }

    @Sentence(of = "Terms 2", says = "till it comes into a THIRD with one (all marks are there)")
    static void walkToTheFullThird() {
        ShareBench x = net(1);
        Due.is("the only third: walk(0)", x.walk(0), 1);
        isEnd("the only third", x, 1, 0, 0, 0, -1);
        x = net(2);
        Due.is("three thirds: walk(0)", x.walk(0), 3);
        isEnd("three thirds", x, 1, 0, 0, 0, -1);
    }

    @Sentence(of = "Terms 2", says = "or goes out by a DOOR again")
    static void walkOut() {
        ShareBench x = netWithAWayOut();
        Due.is("out: walk(0)", x.walk(0), 3);
        isEnd("out", x, 0, 1, 1, 0, 1);
        Due.is("back: walk(1)", x.walk(1), 3);
        isEnd("back", x, 0, 0, 2, 0, 0);
        x = net(MOST);
        x.mark(18, 2, 1);
        Due.is("around one point: walk(18)", x.walk(18), 3);
        isEnd("around one point", x, 0, 17, 2, 0, 17);
        // A layer of 1 at z = 1 leads the walk along the whole side.
        x = net(MOST);
        for (int at = 1; at < 19; at++) {
            x.mark(at, 19 - at, 1);
        }
        x.mark(19, 1, 1);
        Due.is("the whole side: walk(0)", x.walk(0), 37);
        isEnd("the whole side", x, 0, 18, 1, 0, 18);
        Due.is("the whole side back: walk(18)", x.walk(18), 37);
        isEnd("the whole side back", x, 0, 0, 19, 0, 0);
    }

    @Sentence(of = "Promise 9", says = "A NET of a size, each POINT marked as at first: true")
    static void netsFollowOneAnother() {
        ShareBench x = net(3);
        x.mark(1, 1, 2);
        x.mark(2, 0, 2);
        x.mark(0, 2, 2);
        Due.is("as great: net(3)", x.net(3), true);
        Due.is("as great: marked(1, 1)", x.marked(1, 1), 0);
        x.mark(2, 0, 2);
        x.mark(0, 2, 2);
        Due.is("smaller: net(2)", x.net(2), true);
        Due.is("smaller: marked(2, 0), a corner now", x.marked(2, 0), 0);
        Due.is("smaller: marked(0, 2), a corner now", x.marked(0, 2), 1);
        Due.is("smaller: marked(3, 0)", x.marked(3, 0), -1);
        Due.is("the least: net(1)", x.net(1), true);
        Due.is("the least: marked(1, 1)", x.marked(1, 1), -1);
        Due.is("the greatest: net(20)", x.net(MOST), true);
        Due.is("the greatest: marked(2, 0)", x.marked(2, 0), 0);
        Due.is("the greatest: marked(0, 2)", x.marked(0, 2), 1);
        Due.is("the greatest: all()", x.all(), 1);
        x.mark(5, 5, 2);
        x.mark(0, 10, 2);
        x.mark(19, 1, 1);
        Due.is("the least again: net(1)", x.net(1), true);
        Due.is("the greatest again: net(20)", x.net(MOST), true);
        Due.is("what went does not come back: marked(5, 5)", x.marked(5, 5), 0);
        Due.is("what went does not come back: marked(0, 10)", x.marked(0, 10), 1);
        Due.is("what went does not come back: marked(19, 1)", x.marked(19, 1), 0);
    }

    @Sentence(of = "Promise 9", says = "false for others")
    static void netsOfNoSize() {
        for (int size : Bench.outside(1, MOST)) {
            Bench.changesNothing("net(" + size + ")", x -> Bench.told(x.net(size)), 0);
            Bench.changesNothing(ShareBench::new, "new: net(" + size + ")", x -> Bench.told(x.net(size)), 0);
        }
    }

    @Sentence(of = "Promise 10", says = "A POINT's mark: true")
    static void marksAtCornersAndInside() {
        ShareBench x = net(1);
        Due.is("mark(1, 0, 0)", x.mark(1, 0, 0), true);
        Due.is("mark(0, 1, 1)", x.mark(0, 1, 1), true);
        Due.is("mark(0, 0, 2)", x.mark(0, 0, 2), true);
        x = net(MOST);
        int[][] points = {{1, 1}, {18, 1}, {1, 18}};
        for (int[] point : points) {
            for (int mark = 0; mark < 3; mark++) {
                Due.is("mark", x.mark(point[0], point[1], mark), true);
                Due.is("marked", x.marked(point[0], point[1]), mark);
            }
        }
        Due.is("mark(20, 0, 0)", x.mark(20, 0, 0), true);
        Due.is("mark(0, 20, 1)", x.mark(0, 20, 1), true);
        Due.is("mark(0, 0, 2)", x.mark(0, 0, 2), true);
    }

    @Sentence(of = "Promise 10", says = "false: no such POINT")
    static void marksAtNoPoint() {
        int[][] near = {{-1, 0}, {0, -1}, {-1, 1}, {1, -1}, {-1, 4}, {4, -1}, {4, 0}, {0, 4}, {1, 3}, {2, 2}, {3, 1},
            {-1, -1}};
        for (int mark = 0; mark < 3; mark++) {
            for (int[] point : near) {
                marksNot(point[0], point[1], mark);
            }
            for (int[] point : FAR_POINTS) {
                marksNot(point[0], point[1], mark);
            }
        }
        ShareBench x = net(MOST);
        Due.is("net 20: mark(0, 21, 1)", x.mark(0, 21, 1), false);
        Due.is("net 20: mark(21, 0, 0)", x.mark(21, 0, 0), false);
        Due.is("net 20: mark(1, -1, 2)", x.mark(1, -1, 2), false);
        Due.is("net 20: marked(0, 20)", x.marked(0, 20), 1);
        Due.is("net 20: marked(1, 0)", x.marked(1, 0), 0);
        x.net(1);
        Due.is("net 1 behind net 20: mark(1, 1, 0)", x.mark(1, 1, 0), false);
    }

    private static void marksNot(int a, int b, int mark) {
        String name = "mark(" + a + ", " + b + ", " + mark + ")";
        Bench.changesNothing(name, x -> Bench.told(x.mark(a, b, mark)), 0);
    }

    @Sentence(of = "Promise 10", says = "or it can't be marked so")
    static void marksThatCannotBe() {
        for (int mark : Bench.outside(0, 2)) {
            marksNot(1, 1, mark);
            marksNot(3, 0, mark);
            marksNot(0, 0, mark);
        }
        int[][] wrong = {{0, 1, 0}, {0, 3, 0}, {0, 0, 0}, {1, 0, 1}, {3, 0, 1}, {0, 0, 1}, {1, 2, 2}, {3, 0, 2},
            {0, 3, 2}};
        for (int[] call : wrong) {
            marksNot(call[0], call[1], call[2]);
        }
    }

    @Sentence(of = "Promise 11", says = "A POINT's mark")
    static void marksOfTheCorners() {
        ShareBench x = net(MOST);
        Due.is("marked(20, 0)", x.marked(20, 0), 0);
        Due.is("marked(0, 20)", x.marked(0, 20), 1);
        Due.is("marked(0, 0)", x.marked(0, 0), 2);
        x.mark(19, 1, 1);
        Due.is("marked(19, 1)", x.marked(19, 1), 1);
        Due.is("beside it: marked(20, 0)", x.marked(20, 0), 0);
        Due.is("beside it: marked(19, 0)", x.marked(19, 0), 0);
    }

    @Sentence(of = "Promise 11", says = "NONE if there is none such")
    static void marksOfNoPoint() {
        for (int size : new int[] {1, 3, MOST}) {
            ShareBench x = net(size);
            for (int at = -1; at <= size + 1; at++) {
                Due.is(size + ": z is -1", x.marked(at, size + 1 - at), -1);
                Due.is(size + ": x is -1", x.marked(-1, at), -1);
                Due.is(size + ": y is -1", x.marked(at, -1), -1);
            }
            for (int[] point : FAR_POINTS) {
                Due.is(size + ": far off", x.marked(point[0], point[1]), -1);
            }
        }
        ShareBench x = net(MOST);
        x.net(2);
        Due.is("a point of an earlier net: marked(3, 0)", x.marked(3, 0), -1);
        Due.is("a point of an earlier net: marked(2, 1)", x.marked(2, 1), -1);
        Bench.changesNothing("marked(4, 0)", y -> y.marked(4, 0), -1);
    }

    @Sentence(of = "Promise 12", says = "How many THIRDS have all three marks")
    static void fullThirdsAtEveryEdge() {
        Due.is("net 1: all()", net(1).all(), 1);
        Due.is("net 20: all()", net(MOST).all(), 1);
        ShareBench x = net(2);
        x.mark(1, 0, 2);
        x.mark(0, 1, 2);
        x.mark(1, 1, 1);
        // Full: (1, 0), (2, 0), (1, 1), at the corner of x.
        Due.is("net 2, at the corner of x: all()", x.all(), 1);
        x.mark(1, 1, 0);
        // Full: (0, 1), (1, 1), (0, 2), at the corner of y.
        Due.is("net 2, at the corner of y: all()", x.all(), 1);
        x.mark(0, 1, 1);
        // Full: (1, 0), (0, 1), (1, 1), of the other kind.
        Due.is("net 2, of the other kind: all()", x.all(), 1);
        x.mark(1, 0, 0);
        Due.is("net 2, at the corner of z: all()", x.all(), 1);
        x = net(3);
        x.mark(1, 1, 2);
        x.mark(2, 1, 1);
        // Full: those told by 0, 0, 0 and 0, 0, 1 and 0, 1, 1 and 1, 0, 1 and 1, 1, 0.
        Due.is("net 3: all()", x.all(), 5);
    }

    @Sentence(of = "Promise 13", says = "How many DOORS there are at which z is 0")
    static void fewestAndMostOuterDoors() {
        Due.is("net 1: doors()", net(1).doors(), 1);
        ShareBench x = net(MOST);
        Due.is("net 20: doors()", x.doors(), 1);
        for (int at = 1; at < MOST; at++) {
            x.mark(at, MOST - at, 1);
        }
        Due.is("all of y but the corner: doors()", x.doors(), 1);
        for (int at = 1; at < MOST; at += 2) {
            x.mark(at, MOST - at, 0);
        }
        // From x = 0 on: 1, 0, 1, 0, .. and at last 1, 0, 0.
        Due.is("by turns: doors()", x.doors(), 19);
        x = net(2);
        Due.is("doors inside are not counted: doors()", x.doors(), 1);
    }

    @Sentence(of = "Promise 14", says = "How many DOORS there are in the whole NET")
    static void doorsOfTheWholeNet() {
        Due.is("net 1: doorsAll()", net(1).doorsAll(), 1);
        // A door between two thirds counts once.
        Due.is("net 2: doorsAll()", net(2).doorsAll(), 3);
        Due.is("net 20: doorsAll()", net(MOST).doorsAll(), 39);
        ShareBench x = net(2);
        x.mark(1, 0, 2);
        x.mark(0, 1, 2);
        Due.is("none inside: doorsAll()", x.doorsAll(), 1);
        Due.is("out and back: doorsAll()", netWithAWayOut().doorsAll(), 9);
    }

    @Sentence(of = "Promise 15", says = "how many THIRDS it goes through, the last one counted")
    static void shortestAndLongWalks() {
        Due.is("net 1: walk(0)", net(1).walk(0), 1);
        for (int size = 2; size <= MOST; size++) {
            Due.is("net " + size + ": walk(0)", net(size).walk(0), 2 * size - 1);
        }
        ShareBench x = net(2);
        x.mark(1, 0, 2);
        Due.is("two thirds: walk(0)", x.walk(0), 2);
        Due.is("out: walk(0)", netWithAWayOut().walk(0), 3);
        x = netOfTeeth();
        Due.is("through all doors: walk(0)", x.walk(0), 311);
        Due.is("through all doors: doorsAll()", x.doorsAll(), 311);
    }

    /** Rows of 0 and of 1 reach between one another, so that one walk goes through all doors. */
    private static ShareBench netOfTeeth() {
        ShareBench x = net(MOST);
        for (int a = 1; a < MOST; a++) {
            for (int b = 2; a + b <= 18; b += 2) {
                x.mark(a, b, 1);
            }
        }
        return x;
    }

    @Sentence(of = "Promise 15", says = "NONE: no such DOOR")
    static void walksFromNoDoor() {
        for (int size : new int[] {1, 2, MOST}) {
            ShareBench x = net(size);
            for (int door : Bench.outside(0, size - 1)) {
                Due.is("net " + size + ": walk(" + door + ")", x.walk(door), -1);
            }
            for (int side = 1; side < size; side++) {
                Due.is("net " + size + ", a side that is no door: walk(" + side + ")", x.walk(side), -1);
            }
            Due.is("net " + size + ": ended(0)", x.ended(0), -1);
        }
        for (int door : Bench.outside(0, 2)) {
            Bench.changesNothing("walk(" + door + ")", x -> x.walk(door), -1);
        }
        ShareBench x = net(MOST);
        x.mark(19, 1, 1);
        x.net(2);
        Due.is("a door of an earlier net: walk(19)", x.walk(19), -1);
    }

    @Sentence(of = "Promise 16", says = "Where the latest walk() that was not NONE ended")
    static void theLatestWalk() {
        ShareBench x = netWithAWayOut();
        x.walk(2);
        isEnd("the first walk", x, 1);
        x.walk(0);
        isEnd("a later walk", x, 0, 1, 1, 0, 1);
        Due.is("no door: walk(3)", x.walk(3), -1);
        Due.is("no door: walk(-1)", x.walk(-1), -1);
        isEnd("behind walks that were NONE", x, 0, 1, 1, 0, 1);
        x.walk(1);
        isEnd("the latest walk", x, 0, 0, 2, 0, 0);
    }

    @Sentence(of = "Promise 16", says = "what 0: 1 in a THIRD with all marks, 0 out by a DOOR")
    static void endedInsideOrOut() {
        ShareBench x = net(1);
        x.walk(0);
        Due.is("inside: ended(0)", x.ended(0), 1);
        x = netWithAWayOut();
        x.walk(0);
        Due.is("out: ended(0)", x.ended(0), 0);
        x.walk(2);
        Due.is("inside again: ended(0)", x.ended(0), 1);
    }

    @Sentence(of = "Promise 16", says = "1, 2, 3: the THIRD's x, y, and 0 or 1 (the last one that it went through)")
    static void thirdAtTheEnd() {
        ShareBench x = netWithAWayOut();
        x.walk(0);
        Due.is("out: ended(1)", x.ended(1), 1);
        Due.is("out: ended(2)", x.ended(2), 1);
        Due.is("out: ended(3)", x.ended(3), 0);
        x = net(2);
        x.mark(1, 0, 2);
        x.walk(0);
        Due.is("the other kind: ended(1)", x.ended(1), 0);
        Due.is("the other kind: ended(2)", x.ended(2), 0);
        Due.is("the other kind: ended(3)", x.ended(3), 1);
        x = net(MOST);
        x.mark(19, 1, 1);
        x.mark(19, 0, 2);
        x.walk(19);
        Due.is("the greatest x: ended(1)", x.ended(1), 19);
        Due.is("the greatest x: ended(2)", x.ended(2), 0);
        Due.is("the greatest x: ended(3)", x.ended(3), 0);
    }

    @Sentence(of = "Promise 16", says = "4: the DOOR's number by which it went out (NONE of 1)")
    static void doorAtTheEnd() {
        ShareBench x = netWithAWayOut();
        x.walk(2);
        Due.is("inside: ended(4)", x.ended(4), -1);
        x.walk(0);
        Due.is("out by door 1: ended(4)", x.ended(4), 1);
        x.walk(1);
        Due.is("out by door 0: ended(4)", x.ended(4), 0);
        x.walk(2);
        Due.is("inside behind a walk out: ended(4)", x.ended(4), -1);
    }

    @Sentence(of = "Promise 16", says = "NONE for another what")
    static void endedOfAnotherWhat() {
        for (int what : Bench.outside(0, 4)) {
            Bench.changesNothing("ended(" + what + ")", x -> x.ended(what), -1);
            Due.is("ahead of any walk: ended(" + what + ")", net(2).ended(what), -1);
        }
    }

    @Sentence(of = "Promise 16", says = "and ahead of any of this NET as it is marked")
    static void endedAheadOfAnyWalk() {
        isEnd("new", new ShareBench(), -1, -1, -1, -1, -1);
        ShareBench x = netWithAWayOut();
        isEnd("no walk yet", x, -1, -1, -1, -1, -1);
        x.walk(0);
        Due.is("another mark", x.mark(0, 1, 2), true);
        isEnd("another mark", x, -1, -1, -1, -1, -1);
        x.walk(0);
        Due.is("the same mark", x.mark(0, 1, 2), true);
        isEnd("the same mark", x, -1, -1, -1, -1, -1);
        Due.is("no door", x.walk(3), -1);
        isEnd("a walk that was NONE", x, -1, -1, -1, -1, -1);
        x.walk(0);
        Due.is("a net as great", x.net(3), true);
        isEnd("a net as great", x, -1, -1, -1, -1, -1);
        x.walk(0);
        Due.is("a mark refused", x.mark(0, 1, 0), false);
        Due.is("a net refused", x.net(21), false);
        isEnd("behind refused calls", x, 1, 0, 0, 0, -1);
    }
}
