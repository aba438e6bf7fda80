/** The edges of terms 1 and promises 2 to 8. */
final class NecklaceEdges {
    private static final int[] NO_SORTS = Bench.outside(0, 3);

    private NecklaceEdges() {
    }

    private static ShareBench alike(int sort, int many) {
        ShareBench x = new ShareBench();
        for (int k = 1; k <= many; k++) {
            Due.is("bead " + k, x.bead(sort), k);
        }
        return x;
    }

    private static int bits(int... places) {
        int cuts = 0;
        for (int place : places) {
            cuts |= 1 << place;
        }
        return cuts;
    }

    private static void isFirstRow(String sorts, int... places) {
        ShareBench x = Bench.strung(sorts);
        Due.is(sorts + ": least()", x.least(), places.length);
        for (int k = 0; k < places.length; k++) {
            Due.is(sorts + ": cut(" + k + ")", x.cut(k), places[k]);
        }
        Due.is(sorts + ": cut(least)", x.cut(places.length), -1);
    }

    @Sentence(of = "Terms 1", says = "a row of 2 .. 24 BEADS")
    static void fewestAndMostBeads() {
        ShareBench x = alike(1, 1);
        Due.is("one bead: least()", x.least(), -1);
        x.bead(1);
        Due.is("two beads: least()", x.least(), 1);
        x = alike(1, 24);
        Due.is("24 beads: least()", x.least(), 1);
        Due.is("24 beads: cut(0)", x.cut(0), 12);
        Due.is("a bead beyond 24", x.bead(1), -1);
        Due.is("24 beads and a refused one: count(1)", x.count(1), 24);
    }

    @Sentence(of = "Terms 1", says = "BEADS of SORTS 0 .. 3")
    static void leastAndGreatestSort() {
        ShareBench x = new ShareBench();
        Due.is("bead(0)", x.bead(0), 1);
        Due.is("bead(3)", x.bead(3), 2);
        Due.is("bead(4)", x.bead(4), -1);
        Due.is("bead(-1)", x.bead(-1), -1);
        Due.is("count(0)", x.count(0), 1);
        Due.is("count(3)", x.count(3), 1);
    }

    @Sentence(of = "Terms 1", says = "CUTS are at places 1 .. BEADS - 1")
    static void firstAndLastPlace() {
        ShareBench x = Bench.strung("00");
        Due.is("00: the only place", x.halves(bits(1)), 1);
        Due.is("00: at 0", x.halves(bits(0)), -1);
        Due.is("00: at 2", x.halves(bits(2)), -1);
        x = Bench.strung("0001");
        Due.is("0001: at 1", x.halves(bits(1)), 1);
        Due.is("0001: at the last place", x.halves(bits(3)), 0);
        Due.is("0001: behind the last place", x.halves(bits(4)), -1);
        x = alike(2, 24);
        Due.is("24 beads: at 1", x.halves(bits(1)), 0);
        Due.is("24 beads: at 23", x.halves(bits(23)), 0);
        Due.is("24 beads: at 24", x.halves(bits(24)), -1);
        isFirstRow("0111", 2);
        isFirstRow("1000", 2);
        // Only cuts at the first and the last place leave each person one of the two at each end.
        isFirstRow("0011", 1, 3);
    }

    @Sentence(of = "Terms 1", says = "(a cut at k is ahead of bead k)")
    static void aheadOfTheBead() {
        ShareBench x = Bench.strung("001");
        Due.is("001: ahead of bead 1", x.halves(bits(1)), 1);
        Due.is("001: ahead of bead 2", x.halves(bits(2)), 0);
        isFirstRow("001", 1);
        isFirstRow("100", 2);
    }

    @Sentence(of = "Terms 1", says = "the parts go by turns to the first and the second of two people")
    static void partsByTurns() {
        ShareBench x = Bench.strung("010101010101010101010101");
        Due.is("every place cut: all of a sort to one", x.halves((1 << 24) - 2), 0);
        x = alike(0, 24);
        Due.is("every place cut: 12 to each", x.halves((1 << 24) - 2), 1);
        x = Bench.strung("0011");
        Due.is("0011: the third part to the first", x.halves(bits(1, 3)), 1);
        Due.is("0011: the fourth part to the second", x.halves(bits(1, 2, 3)), 1);
        Due.is("0011: two parts", x.halves(bits(2)), 0);
    }

    @Sentence(of = "Terms 1", says = "It is HALVED if of each SORT both have as many")
    static void evenCounts() {
        Due.is("00: both with the first", Bench.strung("00").halves(0), 0);
        Due.is("0000: three and one", Bench.strung("0000").halves(bits(3)), 0);
        Due.is("0000: one and three", Bench.strung("0000").halves(bits(1)), 0);
        Due.is("0000: two and two", Bench.strung("0000").halves(bits(2)), 1);
        Due.is("one sort of four not halved", Bench.strung("01230132").halves(bits(4)), 1);
        Due.is("the last sort not halved", Bench.strung("01233012").halves(bits(5)), 0);
        ShareBench x = alike(3, 24);
        Due.is("24: 12 and 12", x.halves(bits(12)), 1);
        Due.is("24: 13 and 11", x.halves(bits(13)), 0);
        Due.is("24: 11 and 13", x.halves(bits(11)), 0);
        Due.is("24: 24 and 0", x.halves(0), 0);
    }

    @Sentence(of = "Terms 1", says = "or (of an odd count) one of them one more")
    static void oddCounts() {
        ShareBench x = Bench.strung("000");
        Due.is("000: the second one more", x.halves(bits(1)), 1);
        Due.is("000: the first one more", x.halves(bits(2)), 1);
        Due.is("000: the first three more", x.halves(0), 0);
        x = Bench.strung("000111");
        Due.is("000111: the first more of both", x.halves(bits(2, 4)), 1);
        Due.is("000111: the first more of 0, the second of 1", x.halves(bits(2, 5)), 1);
        Due.is("000111: the second more of 0, the first of 1", x.halves(bits(1, 4)), 1);
        Due.is("000111: the second more of both", x.halves(bits(1, 5)), 1);
        Due.is("000111: three more of 1", x.halves(bits(2, 3)), 0);
        x = alike(3, 23);
        Due.is("23: 12 and 11", x.halves(bits(12)), 1);
        Due.is("23: 11 and 12", x.halves(bits(11)), 1);
        Due.is("23: 10 and 13", x.halves(bits(10)), 0);
        Due.is("23: 13 and 10", x.halves(bits(13)), 0);
    }

    @Sentence(of = "Terms 1", says = "LEAST: the fewest CUTS that halve it")
    static void noCutAndMostCuts() {
        isFirstRow("0123");
        isFirstRow("30");
        isFirstRow("01230", 1);
        isFirstRow("00112233", 1, 3, 5, 7);
        isFirstRow("000000111111222222333333", 3, 9, 15, 21);
    }

    @Sentence(of = "Terms 1", says = "of these rows of CUTS, rising, the first one by its numbers")
    static void firstRowByItsNumbers() {
        isFirstRow("000", 1);
        // The rows are (1, 3) and (1, 4).
        isFirstRow("00111", 1, 3);
        // The rows are (1, 4, 7) and (2, 4, 6): the first numbers go ahead of the last ones.
        isFirstRow("00011202", 1, 4, 7);
        // The rows are (1, 2, 4), (2, 3, 4) and (2, 4, 5): cuts may be next to one another.
        isFirstRow("011220", 1, 2, 4);
    }

    @Sentence(of = "Promise 2", says = "A BEAD more: how many")
    static void fromTheFirstBeadToTheLast() {
        for (int sort = 0; sort < 4; sort++) {
            ShareBench x = alike(sort, 24);
            Due.is("count(" + sort + ") of 24", x.count(sort), 24);
            Due.is("count(another) of 24", x.count(3 - sort), 0);
        }
        ShareBench x = new ShareBench();
        for (int k = 1; k <= 24; k++) {
            Due.is("bead " + k, x.bead(3), k);
            Due.is("cut(0) of " + k + ", asked each time", x.cut(0), k < 2 ? -1 : k / 2);
        }
    }

    @Sentence(of = "Promise 2", says = "NONE, and nothing happens: no such SORT")
    static void beadOfNoSort() {
        for (int sort : NO_SORTS) {
            Bench.changesNothing("bead(" + sort + ")", x -> x.bead(sort), -1);
            Bench.changesNothing(ShareBench::new, "new: bead(" + sort + ")", x -> x.bead(sort), -1);
        }
    }

    @Sentence(of = "Promise 2", says = "NONE, and nothing happens: no such SORT, or 24 there are")
    static void beadBeyondTheLast() {
        for (int sort = 0; sort < 4; sort++) {
            int one = sort;
            Bench.changesNothing(Bench::full, "full: bead(" + sort + ")", x -> x.bead(one), -1);
        }
        ShareBench x = alike(0, 24);
        Due.is("full: bead(1)", x.bead(1), -1);
        Due.is("full: beads(24)", x.beads(24), true);
        Due.is("still full: bead(1)", x.bead(1), -1);
        Due.is("beads(23)", x.beads(23), true);
        Due.is("no more full: bead(1)", x.bead(1), 24);
        Due.is("count(1)", x.count(1), 1);
    }

    @Sentence(of = "Promise 3", says = "The first n BEADS stay: true")
    static void allOrNoneStay() {
        Bench.changesNothing("all stay: beads(5)", x -> Bench.told(x.beads(5)), 1);
        ShareBench x = Bench.strung("0011");
        Due.is("beads(4)", x.beads(4), true);
        Due.is("all stay: least()", x.least(), 2);
        Due.is("beads(3)", x.beads(3), true);
        Due.is("three stay: count(0)", x.count(0), 2);
        Due.is("three stay: count(1)", x.count(1), 1);
        Due.is("three stay, asked again: least()", x.least(), 1);
        Due.is("beads(0)", x.beads(0), true);
        Due.is("none stays: count(0)", x.count(0), 0);
        Due.is("none stays: least()", x.least(), -1);
        Due.is("none of none: beads(0)", x.beads(0), true);
        Due.is("the first again: bead(2)", x.bead(2), 1);
        Due.is("what went does not come back: count(0)", x.count(0), 0);
        x = alike(3, 24);
        Due.is("24: beads(24)", x.beads(24), true);
        Due.is("24: count(3)", x.count(3), 24);
    }

    @Sentence(of = "Promise 3", says = "false if there are not so many")
    static void notSoMany() {
        for (int n : new int[] {6, 7, 24, 25, 256, 261, 65536, Integer.MAX_VALUE}) {
            Bench.changesNothing("beads(" + n + ") of 5", x -> Bench.told(x.beads(n)), 0);
        }
        Bench.changesNothing(Bench::full, "beads(25) of 24", x -> Bench.told(x.beads(25)), 0);
        ShareBench x = new ShareBench();
        Due.is("beads(1) of none", x.beads(1), false);
        x = Bench.strung("012");
        x.beads(2);
        Due.is("beads(3) of 2, where 3 have been", x.beads(3), false);
        Due.is("count(2)", x.count(2), 0);
    }

    @Sentence(of = "Promise 3", says = "or n is below 0")
    static void fewerThanNone() {
        for (int n : new int[] {-1, -5, -256, Integer.MIN_VALUE, Integer.MIN_VALUE + 3}) {
            Bench.changesNothing("beads(" + n + ")", x -> Bench.told(x.beads(n)), 0);
            Due.is("none: beads(" + n + ")", new ShareBench().beads(n), false);
        }
    }

    @Sentence(of = "Promise 4", says = "How many BEADS of a SORT there are")
    static void noneOrAllOfASort() {
        for (int sort = 0; sort < 4; sort++) {
            ShareBench x = new ShareBench();
            Due.is("none: count(" + sort + ")", x.count(sort), 0);
            x = alike(sort, 24);
            for (int other = 0; other < 4; other++) {
                Due.is("24 of " + sort + ": count(" + other + ")", x.count(other), other == sort ? 24 : 0);
            }
        }
        ShareBench x = alike(0, 24);
        x.beads(12);
        x.bead(1);
        Due.is("12 stay: count(0)", x.count(0), 12);
    }

    @Sentence(of = "Promise 4", says = "NONE: no such SORT")
    static void countOfNoSort() {
        for (int sort : NO_SORTS) {
            Due.is("none: count(" + sort + ")", new ShareBench().count(sort), -1);
            Bench.changesNothing("count(" + sort + ")", x -> x.count(sort), -1);
        }
    }

    @Sentence(of = "Promise 5", says = "NONE with fewer than 2 BEADS")
    static void leastOfFewerThanTwo() {
        ShareBench x = new ShareBench();
        Due.is("none: least()", x.least(), -1);
        x.bead(0);
        Due.is("one: least()", x.least(), -1);
        x.bead(1);
        Due.is("two: least()", x.least(), 0);
        x.beads(1);
        Due.is("one again: least()", x.least(), -1);
        x.bead(0);
        Due.is("two alike: least()", x.least(), 1);
        x.beads(0);
        Due.is("none again: least()", x.least(), -1);
    }

    @Sentence(of = "Promise 6", says = "Cut k of the first row of LEAST CUTS")
    static void firstAndLastCut() {
        ShareBench x = Bench.strung("000000111111222222333333");
        Due.is("cut(0)", x.cut(0), 3);
        Due.is("cut(3)", x.cut(3), 21);
        x = Bench.strung("00");
        Due.is("two beads: cut(0)", x.cut(0), 1);
    }

    @Sentence(of = "Promise 6", says = "NONE if there is none such")
    static void noSuchCut() {
        for (int k : Bench.outside(0, 3)) {
            Due.is("of four: cut(" + k + ")", Bench.strung("00112233").cut(k), -1);
        }
        for (int k : Bench.outside(0, 0)) {
            Due.is("of one: cut(" + k + ")", Bench.strung("00").cut(k), -1);
        }
        for (int k : Bench.outside(0, 1)) {
            Bench.changesNothing("of two: cut(" + k + ")", x -> x.cut(k), -1);
        }
        for (int k : new int[] {-1, 0, 1, Integer.MIN_VALUE, Integer.MAX_VALUE}) {
            Due.is("no cut is needed: cut(" + k + ")", Bench.strung("0123").cut(k), -1);
            Due.is("no bead: cut(" + k + ")", new ShareBench().cut(k), -1);
            ShareBench x = Bench.strung("00");
            x.least();
            x.beads(1);
            Due.is("one bead: cut(" + k + ")", x.cut(k), -1);
        }
    }

    @Sentence(of = "Promise 7", says = "How many rows of LEAST CUTS there are")
    static void oneRowAtLeast() {
        Due.is("no cut is needed: rows()", Bench.strung("0123").rows(), 1);
        Due.is("00: rows()", Bench.strung("00").rows(), 1);
        Due.is("000: rows()", Bench.strung("000").rows(), 2);
        Due.is("000111: rows()", Bench.strung("000111").rows(), 4);
        Due.is("011220: rows()", Bench.strung("011220").rows(), 3);
        Due.is("four blocks: rows()", Bench.strung("000000111111222222333333").rows(), 1);
        // Each of four blocks of an odd count may be cut at either side of its middle bead.
        Due.is("four odd blocks: rows()", Bench.strung("00000111112222233333").rows(), 16);
    }

    @Sentence(of = "Promise 7", says = "NONE with fewer than 2 BEADS")
    static void rowsOfFewerThanTwo() {
        ShareBench x = new ShareBench();
        Due.is("none: rows()", x.rows(), -1);
        x.bead(0);
        Due.is("one: rows()", x.rows(), -1);
        x.bead(1);
        Due.is("two: rows()", x.rows(), 1);
        x.beads(1);
        Due.is("one again: rows()", x.rows(), -1);
        x.beads(0);
        Due.is("none again: rows()", x.rows(), -1);
    }

    @Sentence(of = "Promise 8", says = "Whether CUTS at the places whose bits are 1 (bit k: at k) halve it (1, 0)")
    static void noBitAndAllBits() {
        Due.is("01: no bit", Bench.strung("01").halves(0), 1);
        Due.is("00: no bit", Bench.strung("00").halves(0), 0);
        Due.is("00: bit 1", Bench.strung("00").halves(2), 1);
        ShareBench x = Bench.strung("100000000000000000000001");
        Due.is("24: bits 12 and 23", x.halves(bits(12, 23)), 0);
        Due.is("24: bits 1 and 12", x.halves(bits(1, 12)), 0);
        Due.is("24: bit 12", x.halves(bits(12)), 1);
        x = Bench.strung("000000000000111111111113");
        Due.is("24: bits 6, 17 and 23", x.halves(bits(6, 17, 23)), 1);
        Due.is("24: bits 6 and 18", x.halves(bits(6, 18)), 1);
        Due.is("24: all bits", x.halves((1 << 24) - 2), 1);
    }

    @Sentence(of = "Promise 8", says = "NONE: fewer than 2 BEADS")
    static void halvesOfFewerThanTwo() {
        for (int cuts : new int[] {0, 1, 2, 3, -1, -2, Integer.MIN_VALUE, Integer.MAX_VALUE}) {
            Due.is("none: halves(" + cuts + ")", new ShareBench().halves(cuts), -1);
            Due.is("one: halves(" + cuts + ")", Bench.strung("2").halves(cuts), -1);
            ShareBench x = Bench.strung("00");
            x.beads(1);
            Due.is("one again: halves(" + cuts + ")", x.halves(cuts), -1);
        }
    }

    @Sentence(of = "Promise 8", says = "NONE: fewer than 2 BEADS, bit 0")
    static void halvesWithBitZero() {
        for (int cuts = 0; cuts < 16; cuts += 2) {
            int odd = cuts + 1;
            Due.is("0011: halves(" + odd + ")", Bench.strung("0011").halves(odd), -1);
            Bench.changesNothing("halves(" + odd + ")", x -> x.halves(odd), -1);
        }
        Due.is("24 beads: halves(1)", alike(0, 24).halves(1), -1);
        Due.is("24 beads: bits 0 and 12", alike(0, 24).halves(bits(0, 12)), -1);
    }

    @Sentence(of = "Promise 8", says = "or one from their number on is 1")
    static void halvesWithABitTooHigh() {
        for (int many : new int[] {2, 4, 23, 24}) {
            ShareBench x = alike(0, many);
            int half = bits(many / 2);
            Due.is(many + ": no bit too high", x.halves(half), 1);
            for (int bit = many; bit < 32; bit++) {
                Due.is(many + ": bit " + bit, x.halves(bits(bit)), -1);
                Due.is(many + ": a half and bit " + bit, x.halves(half | bits(bit)), -1);
            }
        }
        Bench.changesNothing("halves(all but bit 0)", x -> x.halves(-2), -1);
        Bench.changesNothing("halves(bit 31)", x -> x.halves(Integer.MIN_VALUE), -1);
    }
}
