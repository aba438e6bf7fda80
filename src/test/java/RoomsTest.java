/** Promises 17 to 25, by hand, against all rows of small rents, and against chains of grudges. */
public final class RoomsTest {
    private static final long NO = Long.MIN_VALUE;

    public static void main(String[] args) {
        peopleOfWrongNumber();
        peopleBeginAnew();
        roomsAndRents();
        firstOfTheBest();
        pricesByHand();
        turning();
        turnedIsForgotten();
        for (int turn = 0; turn < 400; turn++) {
            againstAllRents(2 + Due.pick(2));
        }
        for (int turn = 0; turn < 2000; turn++) {
            againstChains(1 + Due.pick(5), turn % 2 == 0 ? 1001 : 4);
        }
        Due.end();
    }

    private static ShareBench bench(int rent, int[][] worths) {
        ShareBench x = new ShareBench();
        Due.is("people", x.people(worths.length), true);
        Due.is("rent", x.rent(rent), true);
        for (int p = 0; p < worths.length; p++) {
            for (int r = 0; r < worths.length; r++) {
                Due.is("room", x.room(p, r, worths[p][r]), true);
            }
        }
        return x;
    }

    private static void peopleOfWrongNumber() {
        ShareBench x = bench(60, new int[][] {{10, 50}, {20, 40}});
        x.turned(0, 7);
        for (int wrong : new int[] {0, 6, -1, Integer.MAX_VALUE, Integer.MIN_VALUE}) {
            Due.is("people(" + wrong + ")", x.people(wrong), false);
        }
        Due.is("refused: best", x.best(), 70);
        Due.is("refused: grudge(0, 1)", x.grudge(0, 1), -2 * 40 - 7 - x.price(0) + x.price(1));
        Due.is("people(5)", x.people(5), true);
        Due.is("five: has(4)", x.has(4), 4);
        Due.is("five: has(5)", x.has(5), -1);
        Due.is("people(1)", x.people(1), true);
        Due.is("one: has(1)", x.has(1), -1);
    }

    private static void peopleBeginAnew() {
        ShareBench x = bench(60, new int[][] {{10, 50}, {20, 40}});
        x.line(3);
        x.stretch(1, 2, 5);
        x.turned(0, 5);
        Due.is("anew: people(2)", x.people(2), true);
        Due.is("anew: best", x.best(), 0);
        Due.is("anew: has(0)", x.has(0), 0);
        Due.is("anew: price(0)", x.price(0), 0);
        Due.is("anew: check", x.check(), 0);
        Due.is("anew: the line is as long", x.place(1, 0), 3);
        Due.is("anew: stretches are worth nothing", x.worth(1, 1, 0), 0);
        Due.is("anew: who(0)", x.who(0), 0);
        x.room(1, 0, 9);
        Due.is("three", x.people(3), true);
        Due.is("three: best", x.best(), 0);
    }

    private static void roomsAndRents() {
        ShareBench x = bench(0, new int[][] {{0, 0}, {0, 0}});
        int[][] wrong = {{-1, 0, 5}, {0, -1, 5}, {2, 0, 5}, {0, 2, 5}, {0, 0, -1}, {0, 0, 1001},
            {Integer.MIN_VALUE, 0, 5}, {0, Integer.MAX_VALUE, 5}, {0, 0, Integer.MAX_VALUE}};
        for (int[] call : wrong) {
            Due.is("wrong room", x.room(call[0], call[1], call[2]), false);
        }
        Due.is("best after wrong ones", x.best(), 0);
        Due.is("room worth 1000", x.room(0, 0, 1000), true);
        Due.is("best 1000", x.best(), 1000);
        Due.is("room worth 0", x.room(0, 0, 0), true);
        Due.is("best 0", x.best(), 0);
        for (int rent : new int[] {-1, 10001, Integer.MAX_VALUE, Integer.MIN_VALUE}) {
            Due.is("rent(" + rent + ")", x.rent(rent), false);
        }
        Due.is("price after wrong ones", x.price(1), 0);
        Due.is("rent(10000)", x.rent(10000), true);
        Due.is("price of 10000", x.price(1), 10000);
        Due.is("rent(0)", x.rent(0), true);
        for (int no : new int[] {-1, 2, Integer.MAX_VALUE, Integer.MIN_VALUE}) {
            Due.is("has(" + no + ")", x.has(no), -1);
            Due.is("price(" + no + ")", x.price(no), NO);
            Due.is("grudge(0, " + no + ")", x.grudge(0, no), NO);
            Due.is("grudge(" + no + ", 0)", x.grudge(no, 0), NO);
            Due.is("turned(" + no + ", 0)", x.turned(no, 0), false);
        }
    }

    private static void firstOfTheBest() {
        ShareBench x = bench(0, new int[][] {{1, 2, 3}, {1, 2, 3}, {1, 2, 3}});
        Due.is("all alike: best", x.best(), 6);
        for (int p = 0; p < 3; p++) {
            Due.is("all alike: has", x.has(p), p);
        }
        x.room(0, 0, 0);
        Due.is("less of 0: best", x.best(), 6);
        Due.is("less of 0: has(0)", x.has(0), 1);
        Due.is("less of 0: has(1)", x.has(1), 0);
        Due.is("less of 0: has(2)", x.has(2), 2);
    }

    /** The first needs 30 less for room 1 than for room 0; a rent below 0 is told as it is. */
    private static void pricesByHand() {
        ShareBench x = bench(10, new int[][] {{40, 10}, {100, 20}});
        Due.is("by hand: best", x.best(), 110);
        Due.is("by hand: has(0)", x.has(0), 1);
        Due.is("by hand: price(0)", x.price(0), 40);
        Due.is("by hand: price(1)", x.price(1), -20);
        Due.is("by hand: grudge(0, 1)", x.grudge(0, 1), 0);
        Due.is("by hand: grudge(1, 0)", x.grudge(1, 0), -100);
        x = bench(100, new int[][] {{30, 20, 10}, {30, 20, 10}, {30, 20, 10}});
        Due.is("three: price(0)", x.price(0), 130);
        Due.is("three: price(1)", x.price(1), 100);
        Due.is("three: price(2)", x.price(2), 70);
    }

    private static void turning() {
        ShareBench x = bench(100, new int[][] {{80, 60}, {90, 30}});
        for (int more : new int[] {100001, -100001, Integer.MAX_VALUE, Integer.MIN_VALUE}) {
            Due.is("turned(0, " + more + ")", x.turned(0, more), false);
        }
        Due.is("refused: check", x.check(), 0);
        Due.is("turned(0, 100000)", x.turned(0, 100000), true);
        Due.is("turned: price stays", x.price(0), 120);
        Due.is("turned: best stays", x.best(), 150);
        Due.is("turned: sum", x.check(), 1);
        Due.is("turned: grudge(1, 0)", x.grudge(1, 0), 100000 - 80);
        Due.is("turned: grudge(0, 1)", x.grudge(0, 1), -100000);
        Due.is("turned(1, -100000)", x.turned(1, -100000), true);
        Due.is("turned: grudge above 0", x.check(), 2);
        x.turned(0, 80);
        x.turned(1, -80);
        Due.is("turned: grudge", x.grudge(1, 0), 80);
        x.turned(0, 40);
        x.turned(1, -40);
        Due.is("turned: nobody would change", x.grudge(1, 0), 0);
        Due.is("turned: greatest could be less", x.check(), 3);
        x.turned(0, 41);
        x.turned(1, -41);
        Due.is("turned: one too far", x.check(), 2);
        x.turned(0, 0);
        Due.is("turned: sum too low", x.check(), 1);
        x.turned(1, 0);
        Due.is("turned: back", x.check(), 0);
    }

    private static void turnedIsForgotten() {
        ShareBench x = bench(100, new int[][] {{80, 60}, {90, 30}});
        x.turned(0, 1);
        x.room(0, 0, 1001);
        x.rent(-1);
        x.line(5);
        x.stretch(0, 0, 1);
        Due.is("refusals do not forget", x.check(), 1);
        x.room(0, 0, 80);
        Due.is("room forgets", x.check(), 0);
        x.turned(1, 1);
        x.rent(100);
        Due.is("rent forgets", x.check(), 0);
        x.turned(1, 1);
        x.people(2);
        Due.is("people forget", x.check(), 0);
        Due.is("people forget a grudge", x.grudge(0, 1), 0);
        x.rent(70);
        Due.is("check, asked first behind rent", x.check(), 0);
        x.room(0, 1, 60);
        Due.is("check, asked first behind room", x.check(), 0);
        x.room(1, 1, 90);
        Due.is("grudge, asked first behind room", x.grudge(0, 1), 0);
    }

    private static int[][] worthsByChance(int n, int bound) {
        int[][] worths = new int[n][n];
        for (int[] row : worths) {
            for (int k = 0; k < n; k++) {
                row[k] = Due.pick(bound);
            }
        }
        return worths;
    }

    private static boolean isWanted(int[][] worths, int[] has, long[] rents) {
        int n = worths.length;
        for (int p = 0; p < n; p++) {
            for (int r = 0; r < n; r++) {
                if (n * worths[p][r] - rents[r] > n * worths[p][has[p]] - rents[has[p]]) {
                    return false;
                }
            }
        }
        return true;
    }

    private static long greatest(long[] row) {
        long most = row[0];
        for (long one : row) {
            most = Math.max(most, one);
        }
        return most;
    }

    private static long[] rentsFrom(int code, int n, int span, int sum) {
        long[] rents = new long[n];
        long rest = sum;
        for (int k = 0; k < n - 1; k++) {
            rents[k] = code % span - span / 2;
            rest -= rents[k];
            code /= span;
        }
        rents[n - 1] = rest;
        return rents;
    }

    private static void againstAllRents(int n) {
        int span = 61;
        int rent = Due.pick(6);
        int[][] worths = worthsByChance(n, 5);
        ShareBench x = bench(rent, worths);
        int[] has = new int[n];
        for (int p = 0; p < n; p++) {
            has[p] = x.has(p);
        }
        long least = Long.MAX_VALUE;
        int many = 0;
        long[] kept = new long[n];
        int codes = n == 2 ? span : span * span;
        for (int code = 0; code < codes; code++) {
            long[] rents = rentsFrom(code, n, span, n * rent);
            if (isWanted(worths, has, rents) && greatest(rents) <= least) {
                many = greatest(rents) < least ? 1 : many + 1;
                least = greatest(rents);
                kept = rents;
            }
        }
        Due.is("one row of rents", many, 1);
        for (int r = 0; r < n; r++) {
            Due.is("the least row: price(" + r + ")", x.price(r), kept[r]);
        }
        for (int turn = 0; turn < 30; turn++) {
            compareCheck(x, worths, has, kept, rent);
        }
    }

    private static void compareCheck(ShareBench x, int[][] worths, int[] has, long[] prices, int rent) {
        int n = worths.length;
        long[] rents = prices.clone();
        long sum = 0;
        int rest = 0;
        for (int r = 0; r < n; r++) {
            int more = r == n - 1 && Due.pick(4) > 0 ? -rest : Due.pick(9) - 4;
            rest += more;
            x.turned(r, more);
            rents[r] += more;
            sum += rents[r];
        }
        int want = sum != (long) n * rent ? 1 : !isWanted(worths, has, rents) ? 2
            : greatest(rents) > greatest(prices) ? 3 : 0;
        Due.is("check", x.check(), want);
        for (int p = 0; p < n; p++) {
            for (int o = 0; o < n; o++) {
                long gain = n * worths[p][has[o]] - rents[has[o]] - (n * worths[p][has[p]] - rents[has[p]]);
                Due.is("grudge", x.grudge(p, o), gain);
            }
        }
    }

    private static void againstChains(int n, int bound) {
        int rent = Due.pick(10001);
        int[][] worths = worthsByChance(n, bound);
        ShareBench x = bench(rent, worths);
        int[] has = new int[n];
        int best = seek(worths, 0, 0, new int[n], has, -1, 0);
        Due.is("best", x.best(), best);
        for (int p = 0; p < n; p++) {
            Due.is("has(" + p + ")", x.has(p), has[p]);
        }
        long[] want = pricesByChains(worths, has, rent);
        for (int r = 0; r < n; r++) {
            Due.is("price(" + r + ")", x.price(r), want[r]);
        }
        Due.is("check of the prices", x.check(), 0);
    }

    private static int seek(int[][] worths, int p, int taken, int[] row, int[] kept, int best, int sum) {
        if (p == worths.length) {
            if (sum > best) {
                System.arraycopy(row, 0, kept, 0, row.length);
            }
            return Math.max(sum, best);
        }
        for (int r = 0; r < worths.length; r++) {
            if ((taken & 1 << r) == 0) {
                row[p] = r;
                best = seek(worths, p + 1, taken | 1 << r, row, kept, best, sum + worths[p][r]);
            }
        }
        return best;
    }

    private static long[] pricesByChains(int[][] worths, int[] has, int rent) {
        int n = worths.length;
        long[][] far = new long[n][n];
        for (int p = 0; p < n; p++) {
            for (int r = 0; r < n; r++) {
                far[r][has[p]] = worths[p][has[p]] - worths[p][r];
            }
        }
        for (int by = 0; by < n; by++) {
            for (int a = 0; a < n; a++) {
                for (int b = 0; b < n; b++) {
                    far[a][b] = Math.min(far[a][b], far[a][by] + far[by][b]);
                }
            }
        }
        long[] below = new long[n];
        long sum = 0;
        for (int b = 0; b < n; b++) {
            for (int a = 0; a < n; a++) {
                below[b] = Math.min(below[b], far[a][b]);
            }
            sum += below[b];
        }
        long[] prices = new long[n];
        for (int r = 0; r < n; r++) {
            prices[r] = n * below[r] + rent - sum;
        }
        return prices;
    }
}
