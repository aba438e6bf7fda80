/** Promises 2 to 8, by hand and against every set of cuts. */
public final class NecklaceTest {
    public static void main(String[] args) {
        stringing();
        shortening();
        noCutAtAll();
        byHand();
        masks();
        for (int turn = 0; turn < 1500; turn++) {
            againstAllCuts(2 + Due.pick(13), 1 + Due.pick(4));
        }
        againstAllCuts(24, 4);
        againstAllCuts(24, 3);
        fourCutsAreNeeded();
        usedAgain();
        Due.end();
    }

    private static ShareBench strung(String sorts) {
        ShareBench x = new ShareBench();
        for (int k = 0; k < sorts.length(); k++) {
            Due.is(sorts + ": bead " + k, x.bead(sorts.charAt(k) - '0'), k + 1);
        }
        return x;
    }

    private static void stringing() {
        ShareBench x = new ShareBench();
        for (int wrong : new int[] {-1, 4, Integer.MAX_VALUE, Integer.MIN_VALUE}) {
            Due.is("bead(" + wrong + ")", x.bead(wrong), -1);
            Due.is("count(" + wrong + ")", x.count(wrong), -1);
        }
        for (int k = 1; k <= 24; k++) {
            Due.is("bead 3", x.bead(3), k);
        }
        Due.is("bead beyond 24", x.bead(3), -1);
        Due.is("bead beyond 24, another", x.bead(0), -1);
        Due.is("count(3) of 24", x.count(3), 24);
        Due.is("count(0) of 24", x.count(0), 0);
        Due.is("least of 24 alike", x.least(), 1);
        Due.is("cut of 24 alike", x.cut(0), 12);
        Due.is("rows of 24 alike", x.rows(), 1);
    }

    private static void shortening() {
        ShareBench x = strung("01233");
        Due.is("beads(6)", x.beads(6), false);
        Due.is("beads(-1)", x.beads(-1), false);
        Due.is("beads(min)", x.beads(Integer.MIN_VALUE), false);
        Due.is("count(3) after refusals", x.count(3), 2);
        Due.is("beads(5)", x.beads(5), true);
        Due.is("count(3) of all", x.count(3), 2);
        Due.is("beads(4)", x.beads(4), true);
        Due.is("count(3) of four", x.count(3), 1);
        Due.is("beads(5) of four", x.beads(5), false);
        Due.is("beads(2)", x.beads(2), true);
        Due.is("count(2) of two", x.count(2), 0);
        Due.is("bead(2) of two", x.bead(2), 3);
        Due.is("count(1)", x.count(1), 1);
        Due.is("beads(0)", x.beads(0), true);
        Due.is("count(0) of none", x.count(0), 0);
        Due.is("bead of none", x.bead(1), 1);
        Due.is("least of one", x.least(), -1);
        Due.is("rows of one", x.rows(), -1);
        Due.is("cut of one", x.cut(0), -1);
        Due.is("halves of one", x.halves(0), -1);
    }

    /** One bead of each sort: all may stay with the first, who has one more of each. */
    private static void noCutAtAll() {
        ShareBench x = strung("0123");
        Due.is("0123 least", x.least(), 0);
        Due.is("0123 rows", x.rows(), 1);
        Due.is("0123 cut(0)", x.cut(0), -1);
        Due.is("0123 halves(0)", x.halves(0), 1);
    }

    private static void byHand() {
        ShareBench x = strung("000");
        Due.is("000 least", x.least(), 1);
        Due.is("000 rows", x.rows(), 2);
        Due.is("000 cut(0)", x.cut(0), 1);
        x = strung("0011");
        Due.is("0011 least", x.least(), 2);
        Due.is("0011 cut(0)", x.cut(0), 1);
        Due.is("0011 cut(1)", x.cut(1), 3);
        Due.is("0011 cut(2)", x.cut(2), -1);
        Due.is("0011 cut(-1)", x.cut(-1), -1);
        Due.is("0011 cut(max)", x.cut(Integer.MAX_VALUE), -1);
    }

    private static void masks() {
        ShareBench x = strung("0011");
        Due.is("0011 halves(bit 0)", x.halves(1), -1);
        Due.is("0011 halves(bits 0, 1, 3)", x.halves(11), -1);
        Due.is("0011 halves(bit 4)", x.halves(16), -1);
        Due.is("0011 halves(bits 1, 3, 4)", x.halves(26), -1);
        Due.is("0011 halves(-1)", x.halves(-1), -1);
        Due.is("0011 halves(min)", x.halves(Integer.MIN_VALUE), -1);
        Due.is("0011 halves(bits 1, 3)", x.halves(10), 1);
        Due.is("0011 halves(bits 1, 2, 3)", x.halves(14), 1);
        Due.is("0011 halves(bit 2)", x.halves(4), 0);
    }

    private static boolean halvedBy(int[] sorts, int beads, int cuts) {
        int[] ahead = new int[4];
        int sign = 1;
        for (int k = 0; k < beads; k++) {
            sign = (cuts & 1 << k) != 0 ? -sign : sign;
            ahead[sorts[k]] += sign;
        }
        for (int more : ahead) {
            if (Math.abs(more) > 1) {
                return false;
            }
        }
        return true;
    }

    /** Whether row a of cuts comes ahead of row b, as long. */
    private static boolean isAhead(int a, int b) {
        int apart = Integer.lowestOneBit(a ^ b);
        return (a & apart) != 0;
    }

    private static void againstAllCuts(int beads, int kinds) {
        int[] sorts = new int[beads];
        StringBuilder text = new StringBuilder();
        for (int k = 0; k < beads; k++) {
            sorts[k] = (Due.pick(kinds) + kinds) % 4;
            text.append(sorts[k]);
        }
        ShareBench x = strung(text.toString());
        int least = 99;
        int rows = 0;
        int first = 0;
        for (int cuts = 0; cuts < 1 << beads; cuts += 2) {
            int many = Integer.bitCount(cuts);
            if (many > least || !halvedBy(sorts, beads, cuts)) {
                continue;
            }
            if (many < least) {
                least = many;
                rows = 0;
            }
            if (rows == 0 || isAhead(cuts, first)) {
                first = cuts;
            }
            rows++;
        }
        Due.is(text + " least", x.least(), least);
        Due.is(text + " rows", x.rows(), rows);
        Due.is(text + " halves(first)", x.halves(first), 1);
        int rest = first;
        for (int k = 0; k < least; k++) {
            Due.is(text + " cut(" + k + ")", x.cut(k), Integer.numberOfTrailingZeros(rest));
            rest &= rest - 1;
        }
        Due.is(text + " cut(least)", x.cut(least), -1);
        for (int turn = 0; turn < 20; turn++) {
            int cuts = Due.pick(1 << beads) & -2;
            Due.is(text + " halves(" + cuts + ")", x.halves(cuts), halvedBy(sorts, beads, cuts) ? 1 : 0);
        }
    }

    private static void fourCutsAreNeeded() {
        ShareBench x = strung("000000111111222222333333");
        Due.is("four blocks: least", x.least(), 4);
        Due.is("four blocks: rows", x.rows(), 1);
        for (int k = 0; k < 4; k++) {
            Due.is("four blocks: cut", x.cut(k), 3 + 6 * k);
        }
        Due.is("four blocks: cut(4)", x.cut(4), -1);
    }

    /** What an earlier search found is not told of a necklace that has changed. */
    private static void usedAgain() {
        ShareBench x = strung("0011");
        Due.is("again: least", x.least(), 2);
        x.bead(0);
        Due.is("again: refused", x.bead(9), -1);
        Due.is("again: 00110 least", x.least(), 1);
        Due.is("again: 00110 rows", x.rows(), 1);
        Due.is("again: 00110 cut(0)", x.cut(0), 3);
        Due.is("again: 00110 cut(1)", x.cut(1), -1);
        x.beads(2);
        Due.is("again: 00 cut(0)", x.cut(0), 1);
        Due.is("again: 00 cut(1)", x.cut(1), -1);
        Due.is("again: 00 rows", x.rows(), 1);
        x.bead(0);
        Due.is("again: 000 rows, asked first", x.rows(), 2);
        x.bead(0);
        Due.is("again: 0000 cut(0), asked first", x.cut(0), 2);
    }
}
