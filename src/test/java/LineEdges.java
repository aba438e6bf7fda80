import java.util.Arrays;

/** The edges of terms 4 and promises 26 to 31. */
final class LineEdges {
    private static final int MOST = 30;
    private static final int MOST_PEOPLE = 5;

    private LineEdges() {
    }

    private static ShareBench evenly(int people, int stretches, int worth) {
        int[][] worths = new int[people][stretches];
        for (int[] row : worths) {
            Arrays.fill(row, worth);
        }
        return Bench.lined(worths);
    }

    /** The second says 7/6 and has what is behind it, the first has the rest. */
    private static ShareBench two() {
        return Bench.lined(new int[][] {{2, 4, 6}, {8, 12, 0}});
    }

    private static void isPlace(String name, ShareBench x, int k, long up, long low) {
        Due.is(name + ": place(" + k + ", 0)", x.place(k, 0), up);
        Due.is(name + ": place(" + k + ", 1)", x.place(k, 1), low);
    }

    private static void isWorth(String name, ShareBench x, int person, int k, long up, long low) {
        String call = name + ": worth(" + person + ", " + k + ", ";
        Due.is(call + "0)", x.worth(person, k, 0), up);
        Due.is(call + "1)", x.worth(person, k, 1), low);
    }

    private static void isShared(String name, ShareBench x, int... people) {
        for (int k = 0; k < people.length; k++) {
            Due.is(name + ": who(" + k + ")", x.who(k), people[k]);
        }
    }

    @Sentence(of = "Terms 4", says = "A LINE of 1 .. 30 STRETCHES, of length 1 each")
    static void shortestAndLongestLine() {
        ShareBench x = new ShareBench();
        for (int n = 1; n <= MOST; n++) {
            Due.is("line(" + n + ")", x.line(n), true);
            isPlace("line of " + n, x, 0, n, 1);
            Due.is(n + ": the last stretch", x.stretch(0, n - 1, 1), true);
            Due.is(n + ": one beyond", x.stretch(0, n, 1), false);
        }
        Due.is("line(0)", x.line(0), false);
        Due.is("line(31)", x.line(31), false);
        x = evenly(MOST_PEOPLE, 1, 1);
        for (int k = 0; k < MOST_PEOPLE; k++) {
            isPlace("five on one stretch", x, k, k == 4 ? 1 : k + 1, k == 4 ? 1 : 5);
        }
        x = evenly(MOST_PEOPLE, MOST, 30);
        for (int k = 0; k < MOST_PEOPLE; k++) {
            isPlace("five on thirty stretches", x, k, 6 * (k + 1), 1);
            isWorth("five on thirty stretches", x, 4, k, 180, 1);
        }
    }

    @Sentence(of = "Terms 4", says = "n people (1 .. 5)")
    static void fewestAndMostPeople() {
        for (int n = 1; n <= MOST_PEOPLE; n++) {
            ShareBench x = evenly(n, MOST, 1);
            for (int k = 0; k < n; k++) {
                Due.is(n + ": who(" + k + ")", x.who(k), k);
                Due.is(n + ": place(" + k + ", ..)", x.place(k, 0) * n, MOST * (k + 1) * x.place(k, 1));
            }
            Due.is(n + ": who(n)", x.who(n), -1);
        }
    }

    @Sentence(of = "Terms 4", says = "a WORTH 0 .. 30 (0 at first), spread evenly over it")
    static void leastAndGreatestWorth() {
        ShareBench x = new ShareBench();
        isWorth("at first", x, 0, 0, 0, 1);
        Due.is("stretch(0, 0, 30)", x.stretch(0, 0, 30), true);
        isWorth("30", x, 0, 0, 30, 1);
        Due.is("stretch(0, 0, 0)", x.stretch(0, 0, 0), true);
        isWorth("0", x, 0, 0, 0, 1);
        Due.is("stretch(0, 0, -1)", x.stretch(0, 0, -1), false);
        Due.is("stretch(0, 0, 31)", x.stretch(0, 0, 31), false);
        x = Bench.lined(new int[][] {{1}, {30}, {7}});
        isPlace("a third of it", x, 0, 1, 3);
        isWorth("a third of it", x, 0, 0, 1, 3);
        isWorth("a third of it", x, 1, 1, 10, 1);
        isWorth("a third of it", x, 2, 2, 7, 3);
    }

    @Sentence(of = "Terms 4",
        says = "what is behind the last cut is worth to them a share of one of n of the whole LINE")
    static void sharesFromTheLastCut() {
        ShareBench x = Bench.lined(new int[][] {{3, 3, 3}, {3, 3, 3}, {3, 3, 3}});
        for (int k = 0; k < 3; k++) {
            isPlace("at the ends of stretches", x, k, k + 1, 1);
        }
        // The third's share counts from 2/3 on, where it has nothing yet.
        x = Bench.lined(new int[][] {{1, 1}, {1, 1}, {0, 6}});
        isPlace("from within a stretch", x, 0, 2, 3);
        isPlace("from within a stretch", x, 1, 4, 3);
        // A share of the whole, not of what is left: the second's 12 of 36 end at 2/3 + 12/18.
        x = Bench.lined(new int[][] {{3, 3}, {18, 18}, {0, 30}});
        isPlace("of the whole", x, 0, 2, 3);
        isPlace("of the whole", x, 1, 4, 3);
        isWorth("of the whole", x, 1, 1, 12, 1);
    }

    @Sentence(of = "Terms 4", says = "(the first such place;")
    static void placeAheadOfAGap() {
        ShareBench x = Bench.lined(new int[][] {{4, 0, 0, 4}, {4, 0, 0, 4}});
        isPlace("ahead of the gap", x, 0, 1, 1);
        isPlace("ahead of the gap", x, 1, 4, 1);
        x = Bench.lined(new int[][] {{0, 0, 1, 0, 1, 0}, {0, 0, 1, 0, 1, 0}});
        isPlace("ahead of the second gap", x, 0, 3, 1);
        x = Bench.lined(new int[][] {{2, 0, 2, 0, 2}, {2, 0, 2, 0, 2}, {2, 0, 2, 0, 2}});
        isPlace("ahead of both gaps", x, 0, 1, 1);
        isPlace("ahead of both gaps", x, 1, 3, 1);
        isPlace("ahead of both gaps", x, 2, 5, 1);
    }

    @Sentence(of = "Terms 4", says = "at once, if the whole is worth nothing)")
    static void nothingAtOnce() {
        ShareBench x = Bench.lined(new int[][] {{3, 3}, {0, 0}, {0, 0}});
        isShared("two want nothing", x, 1, 2, 0);
        isPlace("two want nothing", x, 0, 0, 1);
        isPlace("two want nothing", x, 1, 0, 1);
        isPlace("two want nothing", x, 2, 2, 1);
        isWorth("two want nothing", x, 0, 0, 0, 1);
        isWorth("two want nothing", x, 0, 2, 6, 1);
        x = evenly(MOST_PEOPLE, MOST, 0);
        isShared("nobody wants anything", x, 0, 1, 2, 3, 4);
        for (int k = 0; k < MOST_PEOPLE; k++) {
            isPlace("nobody wants anything", x, k, k == 4 ? 30 : 0, 1);
            isWorth("nobody wants anything", x, k, k, 0, 1);
            Due.is("nobody wants anything: envies(" + k + ")", x.envies(k), 0);
        }
    }

    @Sentence(of = "Terms 4", says = "the first place is a cut, who said it (of several the least one)")
    static void severalSayTheSamePlace() {
        isShared("all the same", Bench.lined(new int[][] {{7, 7}, {4, 4}, {2, 2}}), 0, 1, 2);
        isShared("a later one goes ahead by a hair",
            Bench.lined(new int[][] {{29, 30}, {29, 30}, {30, 30}}), 2, 0, 1);
        isShared("two of three", Bench.lined(new int[][] {{0, 0, 9}, {5, 5, 5}, {8, 8, 8}}), 1, 2, 0);
        // All say 2/3, by 4 of 6, 20 of 30 and 10 of 15.
        isShared("the same by other fractions",
            Bench.lined(new int[][] {{6, 0, 6}, {30, 30, 0}, {15, 15, 0}}), 0, 1, 2);
    }

    @Sentence(of = "Terms 4", says = "the last one has the rest")
    static void theRest() {
        ShareBench x = Bench.lined(new int[][] {{9, 0, 0, 0}, {9, 0, 0, 0}});
        isShared("a rest worth nothing behind", x, 0, 1);
        isPlace("a rest worth nothing behind", x, 0, 1, 2);
        isPlace("a rest worth nothing behind", x, 1, 4, 1);
        x = Bench.lined(new int[][] {{1, 0, 5}});
        isShared("no cut at all", x, 0);
        isPlace("no cut at all", x, 0, 3, 1);
        isWorth("no cut at all", x, 0, 0, 6, 1);
        x = Bench.lined(new int[][] {{0, 0}, {0, 0}});
        isPlace("all is the rest", x, 0, 0, 1);
        isPlace("all is the rest", x, 1, 2, 1);
    }

    @Sentence(of = "Terms 4", says = "fractions, told in their least terms, the lower number above 0")
    static void leastTerms() {
        isPlace("nothing is 0/1", Bench.lined(new int[][] {{0, 0}, {5, 5}}), 0, 0, 1);
        isWorth("nothing is 0/1", Bench.lined(new int[][] {{0, 0}, {5, 5}}), 1, 0, 0, 1);
        isPlace("a whole number is k/1", evenly(2, 30, 30), 0, 15, 1);
        isPlace("15/30 is 1/2", evenly(2, 1, 30), 0, 1, 2);
        isWorth("30/4 is 15/2", evenly(4, 1, 30), 3, 3, 15, 2);
        // Great numbers, found with fractions that have no bounds.
        ShareBench x = Bench.lined(new int[][] {{13, 23, 29, 25, 17, 29}, {19, 29, 27, 27, 17, 19},
            {27, 25, 29, 29, 19, 27}, {29, 19, 17, 13, 19, 23}, {13, 25, 19, 29, 27, 17}});
        isShared("great numbers", x, 3, 1, 0, 4, 2);
        isPlace("great numbers", x, 0, 24, 29);
        isPlace("great numbers", x, 1, 7732, 4205);
        isPlace("great numbers", x, 2, 342672, 121945);
        isPlace("great numbers", x, 3, 13339688, 3536405);
        isPlace("great numbers", x, 4, 6, 1);
        isWorth("great numbers", x, 0, 3, 87741908, 3536405);
        isWorth("great numbers", x, 0, 2, 136, 5);
        isWorth("great numbers", x, 3, 4, 159006126, 3536405);
        isWorth("great numbers", x, 4, 3, 26, 1);
    }

    @Sentence(of = "Promise 26", says = "The LINE has n STRETCHES, WORTHS 0: true")
    static void linesFollowOneAnother() {
        ShareBench x = two();
        Due.is("as long: line(3)", x.line(3), true);
        isWorth("as long", x, 1, 1, 0, 1);
        isPlace("as long", x, 1, 3, 1);
        x = evenly(2, 30, 30);
        Due.is("the shortest: line(1)", x.line(1), true);
        isPlace("the shortest", x, 1, 1, 1);
        isWorth("the shortest", x, 0, 1, 0, 1);
        Due.is("the longest: line(30)", x.line(30), true);
        isPlace("the longest", x, 1, 30, 1);
        isWorth("the longest, what went does not come back", x, 0, 1, 0, 1);
        isWorth("the longest, what went does not come back", x, 1, 1, 0, 1);
        // Rooms are no stretches.
        x.room(1, 0, 7);
        x.turned(0, 3);
        Due.is("line(30) again", x.line(30), true);
        Due.is("the room's worth stays: best()", x.best(), 7);
        Due.is("what is more stays: check()", x.check(), 1);
    }

    @Sentence(of = "Promise 26", says = "false for others")
    static void linesOfNoLength() {
        for (int n : Bench.outside(1, MOST)) {
            Bench.changesNothing("line(" + n + ")", x -> Bench.told(x.line(n)), 0);
        }
    }

    @Sentence(of = "Promise 27", says = "A STRETCH's WORTH to a person: true")
    static void worthsOfTheFirstAndTheLast() {
        ShareBench x = evenly(MOST_PEOPLE, MOST, 0);
        Due.is("stretch(4, 29, 30)", x.stretch(4, 29, 30), true);
        isShared("the last wants the last stretch", x, 0, 1, 2, 3, 4);
        isWorth("the last wants the last stretch", x, 4, 4, 30, 1);
        Due.is("stretch(0, 0, 30)", x.stretch(0, 0, 30), true);
        isShared("the first wants the first stretch", x, 1, 2, 3, 0, 4);
        isPlace("the first wants the first stretch", x, 3, 1, 5);
        Due.is("stretch(0, 0, 0)", x.stretch(0, 0, 0), true);
        isShared("no more", x, 0, 1, 2, 3, 4);
        Due.is("the same again", x.stretch(4, 29, 30), true);
        isWorth("the same again", x, 4, 4, 30, 1);
    }

    @Sentence(of = "Promise 27", says = "false: no such person")
    static void stretchOfNoPerson() {
        for (int person : Bench.outside(0, 2)) {
            Bench.changesNothing("stretch(" + person + ", 0, 9)", x -> Bench.told(x.stretch(person, 0, 9)), 0);
        }
        Due.is("five: stretch(5, 0, 9)", evenly(5, 2, 1).stretch(5, 0, 9), false);
    }

    @Sentence(of = "Promise 27", says = "false: no such person, STRETCH")
    static void noStretchOfAPerson() {
        for (int stretch : Bench.outside(0, 3)) {
            Bench.changesNothing("stretch(1, " + stretch + ", 9)", x -> Bench.told(x.stretch(1, stretch, 9)), 0);
        }
        ShareBench x = evenly(2, 30, 1);
        Due.is("thirty: stretch(0, 30, 9)", x.stretch(0, 30, 9), false);
        Due.is("thirty: stretch(1, -1, 9)", x.stretch(1, -1, 9), false);
        x.line(2);
        Due.is("one of an earlier line: stretch(0, 2, 9)", x.stretch(0, 2, 9), false);
    }

    @Sentence(of = "Promise 27", says = "false: no such person, STRETCH, WORTH")
    static void stretchOfNoWorth() {
        for (int worth : Bench.outside(0, 30)) {
            Bench.changesNothing("stretch(1, 1, " + worth + ")", x -> Bench.told(x.stretch(1, 1, worth)), 0);
        }
    }

    @Sentence(of = "Promise 28", says = "The person who has part k by the KNIFE (from 0 on along the LINE)")
    static void firstAndLastPart() {
        Due.is("one person: who(0)", new ShareBench().who(0), 0);
        // Each one wants the stretch ahead of that which the one before wants.
        int[][] worths = new int[MOST_PEOPLE][MOST_PEOPLE];
        for (int p = 0; p < MOST_PEOPLE; p++) {
            worths[p][MOST_PEOPLE - 1 - p] = 30;
        }
        isShared("the last has the first part", Bench.lined(worths), 4, 3, 2, 1, 0);
    }

    @Sentence(of = "Promise 28", says = "NONE: no such part")
    static void whoHasNoPart() {
        for (int n = 1; n <= MOST_PEOPLE; n++) {
            ShareBench x = evenly(MOST_PEOPLE, 3, 2);
            x.people(n);
            for (int k : Bench.outside(0, n - 1)) {
                Due.is(n + ": who(" + k + ")", x.who(k), -1);
            }
        }
        Bench.changesNothing("who(3)", x -> x.who(3), -1);
        Bench.changesNothing("who(-1)", x -> x.who(-1), -1);
    }

    @Sentence(of = "Promise 29", says = "The place at which part k ends, what 0: the upper, 1: the lower number")
    static void whereTheFirstAndTheLastPartEnd() {
        isPlace("the first", two(), 0, 7, 6);
        isPlace("the last ends with the line", two(), 1, 3, 1);
        isPlace("the only one", new ShareBench(), 0, 1, 1);
        isPlace("the longest line", evenly(5, 30, 1), 4, 30, 1);
    }

    @Sentence(of = "Promise 29", says = "NONE: no such part")
    static void placeOfNoPart() {
        for (int n = 1; n <= MOST_PEOPLE; n++) {
            ShareBench x = evenly(MOST_PEOPLE, 3, 2);
            x.people(n);
            for (int k : Bench.outside(0, n - 1)) {
                Due.is(n + ": place(" + k + ", 0)", x.place(k, 0), -1);
                Due.is(n + ": place(" + k + ", 1)", x.place(k, 1), -1);
            }
        }
        Bench.changesNothing("place(3, 0)", x -> x.place(3, 0), -1);
        Bench.changesNothing("place(-1, 1)", x -> x.place(-1, 1), -1);
    }

    @Sentence(of = "Promise 29", says = "NONE: no such part, what")
    static void placeOfNoWhat() {
        for (int what : Bench.outside(0, 1)) {
            Bench.changesNothing("place(0, " + what + ")", x -> x.place(0, what), -1);
            Bench.changesNothing("place(2, " + what + ")", x -> x.place(2, what), -1);
            Due.is("neither: place(3, " + what + ")", Bench.busy().place(3, what), -1);
        }
    }

    @Sentence(of = "Promise 30", says = "What part k is worth to a person")
    static void worthOfAllAndOfNothing() {
        ShareBench x = two();
        isWorth("the own share", x, 1, 0, 10, 1);
        isWorth("the other's", x, 0, 0, 8, 3);
        isWorth("the rest", x, 0, 1, 28, 3);
        x = new ShareBench();
        isWorth("worth nothing", x, 0, 0, 0, 1);
        x = evenly(1, 30, 30);
        isWorth("the most that there is", x, 0, 0, 900, 1);
        x = Bench.lined(new int[][] {{0, 0}, {30, 30}});
        isWorth("a part of no length", x, 1, 0, 0, 1);
        isWorth("all the line", x, 1, 1, 60, 1);
    }

    @Sentence(of = "Promise 30", says = "to a person, likewise")
    static void worthOfNoPersonPartOrWhat() {
        for (int no : Bench.outside(0, 2)) {
            Bench.changesNothing("worth(" + no + ", 0, 0)", x -> x.worth(no, 0, 0), -1);
            Bench.changesNothing("worth(0, " + no + ", 1)", x -> x.worth(0, no, 1), -1);
        }
        for (int what : Bench.outside(0, 1)) {
            Bench.changesNothing("worth(2, 2, " + what + ")", x -> x.worth(2, 2, what), -1);
        }
        for (int n = 1; n <= MOST_PEOPLE; n++) {
            ShareBench x = evenly(MOST_PEOPLE, 3, 2);
            x.people(n);
            Due.is(n + ": worth(n, 0, 0)", x.worth(n, 0, 0), -1);
            Due.is(n + ": worth(0, n, 0)", x.worth(0, n, 0), -1);
            Due.is(n + ": worth(-1, 0, 1)", x.worth(-1, 0, 1), -1);
            Due.is(n + ": worth(0, -1, 1)", x.worth(0, -1, 1), -1);
        }
    }

    @Sentence(of = "Promise 31", says = "How many others' parts are worth more to a person than the own one")
    static void nobodyAndMostEnvied() {
        Due.is("one person: envies(0)", new ShareBench().envies(0), 0);
        ShareBench x = evenly(MOST_PEOPLE, MOST, 30);
        for (int p = 0; p < MOST_PEOPLE; p++) {
            Due.is("as much is not more: envies(" + p + ")", x.envies(p), 0);
        }
        // The first to speak has a fifth, so that at most three other parts are worth more.
        x = Bench.lined(new int[][] {{0, 6, 1, 6, 0}, {3, 4, 0, 3, 0}, {0, 0, 1, 4, 0}, {3, 4, 0, 0, 0},
            {3, 2, 5, 0, 0}});
        isShared("the most", x, 3, 1, 0, 4, 2);
        int[] envied = {2, 1, 0, 3, 1};
        for (int p = 0; p < MOST_PEOPLE; p++) {
            Due.is("the most: envies(" + p + ")", x.envies(p), envied[p]);
        }
        x = Bench.lined(new int[][] {{30, 0, 0}, {0, 0, 30}, {0, 0, 30}});
        Due.is("a part of as much and one of more: envies(1)", x.envies(1), 1);
        Due.is("the last one: envies(2)", x.envies(2), 0);
    }

    @Sentence(of = "Promise 31", says = "NONE: no such person")
    static void nobodyEnvies() {
        for (int n = 1; n <= MOST_PEOPLE; n++) {
            ShareBench x = evenly(MOST_PEOPLE, 3, 2);
            x.people(n);
            for (int person : Bench.outside(0, n - 1)) {
                Due.is(n + ": envies(" + person + ")", x.envies(person), -1);
            }
        }
        Bench.changesNothing("envies(3)", x -> x.envies(3), -1);
        Bench.changesNothing("envies(-1)", x -> x.envies(-1), -1);
    }
}
