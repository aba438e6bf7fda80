import java.math.BigInteger;

/** Promises 26 to 31, by hand and against fractions without bounds. */
public final class LineTest {
    /** An exact fraction in its least terms, the lower number above 0. */
    private record Part(BigInteger up, BigInteger low) {
        static Part of(BigInteger up, BigInteger low) {
            BigInteger common = up.gcd(low).multiply(BigInteger.valueOf(low.signum()));
            return new Part(up.divide(common), low.divide(common));
        }

        static Part of(long whole) {
            return of(BigInteger.valueOf(whole), BigInteger.ONE);
        }

        Part plus(Part other) {
            return of(up.multiply(other.low).add(other.up.multiply(low)), low.multiply(other.low));
        }

        Part times(Part other) {
            return of(up.multiply(other.up), low.multiply(other.low));
        }

        Part over(Part other) {
            return of(up.multiply(other.low), low.multiply(other.up));
        }

        Part minus(Part other) {
            return plus(other.times(of(-1)));
        }

        int compare(Part other) {
            return minus(other).up.signum();
        }
    }

    public static void main(String[] args) {
        lengths();
        stretches();
        noSuchParts();
        onePerson();
        byHand();
        worthNothing();
        leastOfSeveral();
        usedAgain();
        for (int turn = 0; turn < 3000; turn++) {
            againstFractions(1 + Due.pick(5), 1 + Due.pick(30), turn % 4);
        }
        Due.end();
    }

    private static void isPlace(String name, ShareBench x, int k, long up, long low) {
        Due.is(name + ": place(" + k + ", 0)", x.place(k, 0), up);
        Due.is(name + ": place(" + k + ", 1)", x.place(k, 1), low);
    }

    private static void isWorth(String name, ShareBench x, int p, int k, long up, long low) {
        Due.is(name + ": worth(" + p + ", " + k + ", 0)", x.worth(p, k, 0), up);
        Due.is(name + ": worth(" + p + ", " + k + ", 1)", x.worth(p, k, 1), low);
    }

    private static ShareBench bench(int[][] worths) {
        ShareBench x = new ShareBench();
        Due.is("people", x.people(worths.length), true);
        Due.is("line", x.line(worths[0].length), true);
        for (int p = 0; p < worths.length; p++) {
            for (int k = 0; k < worths[p].length; k++) {
                Due.is("stretch", x.stretch(p, k, worths[p][k]), true);
            }
        }
        return x;
    }

    private static void lengths() {
        ShareBench x = bench(new int[][] {{3, 4}});
        for (int wrong : new int[] {0, 31, -1, Integer.MAX_VALUE, Integer.MIN_VALUE}) {
            Due.is("line(" + wrong + ")", x.line(wrong), false);
        }
        isPlace("refused", x, 0, 2, 1);
        isWorth("refused", x, 0, 0, 7, 1);
        Due.is("line(30)", x.line(30), true);
        isPlace("thirty", x, 0, 30, 1);
        isWorth("thirty", x, 0, 0, 0, 1);
        Due.is("stretch 29", x.stretch(0, 29, 30), true);
        Due.is("line(30) again", x.line(30), true);
        isWorth("thirty again", x, 0, 0, 0, 1);
        Due.is("line(1)", x.line(1), true);
        Due.is("stretch(0, 1, 1) of one", x.stretch(0, 1, 1), false);
    }

    private static void stretches() {
        ShareBench x = bench(new int[][] {{0, 0}, {0, 0}});
        int[][] wrong = {{-1, 0, 5}, {2, 0, 5}, {0, -1, 5}, {0, 2, 5}, {0, 0, -1}, {0, 0, 31},
            {Integer.MAX_VALUE, 0, 5}, {0, Integer.MIN_VALUE, 5}, {0, 0, Integer.MAX_VALUE}};
        for (int[] call : wrong) {
            Due.is("wrong stretch", x.stretch(call[0], call[1], call[2]), false);
        }
        isWorth("wrong stretches", x, 0, 1, 0, 1);
        Due.is("stretch worth 30", x.stretch(0, 1, 30), true);
        isWorth("worth 30", x, 0, 1, 30, 1);
        Due.is("stretch worth 0", x.stretch(0, 1, 0), true);
        isWorth("worth 0", x, 0, 1, 0, 1);
    }

    private static void noSuchParts() {
        ShareBench x = bench(new int[][] {{1, 2}, {3, 4}});
        for (int no : new int[] {-1, 2, Integer.MAX_VALUE, Integer.MIN_VALUE}) {
            Due.is("who(" + no + ")", x.who(no), -1);
            Due.is("place(" + no + ", 0)", x.place(no, 0), -1);
            Due.is("place(0, " + no + ")", x.place(0, no), -1);
            Due.is("worth(" + no + ", 0, 0)", x.worth(no, 0, 0), -1);
            Due.is("worth(0, " + no + ", 0)", x.worth(0, no, 0), -1);
            Due.is("worth(0, 0, " + no + ")", x.worth(0, 0, no), -1);
            Due.is("envies(" + no + ")", x.envies(no), -1);
        }
    }

    private static void onePerson() {
        ShareBench x = bench(new int[][] {{5, 0, 7}});
        Due.is("one: who(0)", x.who(0), 0);
        isPlace("one", x, 0, 3, 1);
        isWorth("one", x, 0, 0, 12, 1);
        Due.is("one: envies", x.envies(0), 0);
    }

    /** Person 1 wants 10 of 20 and says 1 + 2/12; person 0 wants 6 of 12 and says 2, which is later. */
    private static void byHand() {
        ShareBench x = bench(new int[][] {{2, 4, 6}, {8, 12, 0}});
        Due.is("by hand: who(0)", x.who(0), 1);
        Due.is("by hand: who(1)", x.who(1), 0);
        isPlace("by hand", x, 0, 7, 6);
        isPlace("by hand", x, 1, 3, 1);
        isWorth("by hand", x, 1, 0, 10, 1);
        isWorth("by hand", x, 1, 1, 10, 1);
        isWorth("by hand", x, 0, 0, 8, 3);
        isWorth("by hand", x, 0, 1, 28, 3);
        Due.is("by hand: envies(0)", x.envies(0), 0);
        Due.is("by hand: envies(1)", x.envies(1), 0);
        x = bench(new int[][] {{30, 0, 0}, {0, 0, 30}, {0, 0, 30}});
        Due.is("envy: who(0)", x.who(0), 0);
        isPlace("envy", x, 0, 1, 3);
        Due.is("envy: who(1)", x.who(1), 1);
        isPlace("envy: the first place", x, 1, 7, 3);
        isWorth("envy", x, 0, 1, 20, 1);
        isWorth("envy", x, 1, 2, 20, 1);
        Due.is("envy: of 0", x.envies(0), 1);
        Due.is("envy: of 1", x.envies(1), 1);
        Due.is("envy: of 2", x.envies(2), 0);
        x.stretch(2, 0, 30);
        Due.is("envy: of 1, asked first", x.envies(1), 0);
        Due.is("envy: of 2, now the second", x.envies(2), 1);
        x = bench(new int[][] {{1, 1}, {1, 1}, {0, 6}});
        isPlace("gap", x, 0, 2, 3);
        isPlace("gap", x, 1, 4, 3);
        Due.is("gap: who(1)", x.who(1), 1);
    }

    private static void worthNothing() {
        ShareBench x = bench(new int[][] {{3, 3}, {0, 0}, {0, 0}});
        Due.is("nothing: who(0)", x.who(0), 1);
        Due.is("nothing: who(1)", x.who(1), 2);
        Due.is("nothing: who(2)", x.who(2), 0);
        isPlace("nothing", x, 0, 0, 1);
        isPlace("nothing", x, 1, 0, 1);
        isPlace("nothing", x, 2, 2, 1);
        isWorth("nothing", x, 0, 0, 0, 1);
        isWorth("nothing", x, 0, 2, 6, 1);
        Due.is("nothing: envies", x.envies(1), 0);
        x = bench(new int[][] {{0}, {0}, {0}, {0}, {0}});
        for (int k = 0; k < 5; k++) {
            Due.is("all nothing: who", x.who(k), k);
            isPlace("all nothing", x, k, k == 4 ? 1 : 0, 1);
        }
    }

    private static void leastOfSeveral() {
        ShareBench x = bench(new int[][] {{7, 7}, {4, 4}, {2, 2}});
        for (int k = 0; k < 3; k++) {
            Due.is("several: who", x.who(k), k);
            isPlace("several", x, k, k == 2 ? 2 : 2 * (k + 1), k == 2 ? 1 : 3);
        }
    }

    /** What the knife did earlier is not told of a line that has changed. */
    private static void usedAgain() {
        ShareBench x = bench(new int[][] {{2, 4, 6}, {8, 12, 0}});
        Due.is("again: who(0)", x.who(0), 1);
        x.stretch(0, 0, 30);
        Due.is("again: who(0) of 30", x.who(0), 0);
        isPlace("again", x, 0, 2, 3);
        x.stretch(0, 0, 31);
        isPlace("again, refused", x, 0, 2, 3);
        Due.is("again: who(1) of 30", x.who(1), 1);
        x.stretch(0, 0, 2);
        Due.is("again: who(1) as at first", x.who(1), 0);
        x.line(2);
        Due.is("again: who(0) of a new line", x.who(0), 0);
        isPlace("again, new line", x, 0, 0, 1);
        isPlace("again, new line", x, 1, 2, 1);
        x.stretch(1, 1, 3);
        x.people(2);
        isWorth("again, new people", x, 1, 1, 0, 1);
    }

    private static int worthByChance(int way) {
        switch (way) {
            case 0:
                return Due.pick(31);
            case 1:
                return Due.pick(3) == 0 ? Due.pick(31) : 0;
            case 2:
                return 23 + Due.pick(7);
            default:
                return Due.pick(3);
        }
    }

    private static Part ahead(int[] worths, Part place) {
        Part sum = Part.of(0);
        for (int k = 0; k < worths.length; k++) {
            Part within = place.minus(Part.of(k));
            if (within.up.signum() > 0) {
                Part much = within.compare(Part.of(1)) > 0 ? Part.of(1) : within;
                sum = sum.plus(much.times(Part.of(worths[k])));
            }
        }
        return sum;
    }

    private static Part say(int[] worths, int n, Part from) {
        Part whole = ahead(worths, Part.of(worths.length));
        Part rest = whole.over(Part.of(n));
        Part at = from;
        for (int k = 0; k < worths.length && rest.up.signum() > 0; k++) {
            Part end = Part.of(k + 1);
            if (end.compare(at) <= 0) {
                continue;
            }
            Part here = end.minus(at).times(Part.of(worths[k]));
            if (here.compare(rest) >= 0) {
                return at.plus(rest.over(Part.of(worths[k])));
            }
            rest = rest.minus(here);
            at = end;
        }
        return at;
    }

    private static void againstFractions(int n, int length, int way) {
        int[][] worths = new int[n][length];
        for (int p = 0; p < n; p++) {
            for (int k = 0; k < length; k++) {
                worths[p][k] = Due.pick(40) == 0 ? 0 : worthByChance(way);
            }
            if (Due.pick(15) == 0) {
                worths[p] = new int[length];
            }
        }
        ShareBench x = bench(worths);
        Part[] places = new Part[n + 1];
        places[0] = Part.of(0);
        int[] holders = new int[n];
        boolean[] served = new boolean[n];
        for (int k = 0; k < n; k++) {
            int first = -1;
            for (int p = 0; p < n; p++) {
                Part said = served[p] ? null : k == n - 1 ? Part.of(length) : say(worths[p], n, places[k]);
                if (said != null && (first == -1 || said.compare(places[k + 1]) < 0)) {
                    first = p;
                    places[k + 1] = said;
                }
            }
            served[first] = true;
            holders[k] = first;
            Due.is("who(" + k + ")", x.who(k), first);
            isPlace("knife", x, k, places[k + 1].up.longValueExact(), places[k + 1].low.longValueExact());
        }
        for (int p = 0; p < n; p++) {
            compareWorths(x, worths[p], p, places, holders);
        }
    }

    private static void compareWorths(ShareBench x, int[] worths, int p, Part[] places, int[] holders) {
        int n = holders.length;
        Part[] parts = new Part[n];
        Part mine = null;
        for (int k = 0; k < n; k++) {
            parts[k] = ahead(worths, places[k + 1]).minus(ahead(worths, places[k]));
            mine = holders[k] == p ? parts[k] : mine;
            isWorth("knife", x, p, k, parts[k].up.longValueExact(), parts[k].low.longValueExact());
        }
        int envied = 0;
        for (Part part : parts) {
            envied += part.compare(mine) > 0 ? 1 : 0;
        }
        Due.is("envies(" + p + ")", x.envies(p), envied);
    }
}
