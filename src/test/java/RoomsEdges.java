/** The edges of terms 3 and promises 17 to 25. */
final class RoomsEdges {
    private static final long NO = Long.MIN_VALUE;
    private static final int MOST = 5;

    private RoomsEdges() {
    }

    /** Room 1 goes to the first at 80, room 0 to the second at 120; the first likes both as well. */
    private static ShareBench two() {
        return Bench.housed(100, new int[][] {{80, 60}, {90, 30}});
    }

    /** The rents are 5, -10 and 5; the second would take room 0 if it cost 1 less. */
    private static ShareBench three() {
        return Bench.housed(0, new int[][] {{1000, 0, 0}, {10, 5, 0}, {0, 0, 1000}});
    }

    private static ShareBench people(int n) {
        ShareBench x = new ShareBench();
        Due.is("people(" + n + ")", x.people(n), true);
        return x;
    }

    private static void arePrices(String name, ShareBench x, long... prices) {
        for (int room = 0; room < prices.length; room++) {
            Due.is(name + ": price(" + room + ")", x.price(room), prices[room]);
        }
    }

    private static void isSharing(String name, ShareBench x, int... rooms) {
        for (int person = 0; person < rooms.length; person++) {
            Due.is(name + ": has(" + person + ")", x.has(person), rooms[person]);
        }
    }

    @Sentence(of = "Terms 3", says = "n people (1 .. 5), as many ROOMS")
    static void fewestAndMostPeople() {
        for (int n = 1; n <= MOST; n++) {
            ShareBench x = people(n);
            int last = n - 1;
            Due.is(n + ": room(last, last, 1)", x.room(last, last, 1), true);
            Due.is(n + ": has(last)", x.has(last), last);
            Due.is(n + ": price(last)", x.price(last), 0);
            Due.is(n + ": room(n, 0, 1)", x.room(n, 0, 1), false);
            Due.is(n + ": room(0, n, 1)", x.room(0, n, 1), false);
            Due.is(n + ": has(n)", x.has(n), -1);
            Due.is(n + ": price(n)", x.price(n), NO);
        }
        Due.is("people(0)", new ShareBench().people(0), false);
        Due.is("people(6)", new ShareBench().people(6), false);
    }

    @Sentence(of = "Terms 3", says = "WORTHS 0 .. 1000 of each to each (0 at first)")
    static void leastAndGreatestWorth() {
        for (int n = 1; n <= MOST; n++) {
            ShareBench x = people(n);
            Due.is(n + ", at first: best()", x.best(), 0);
            for (int p = 0; p < n; p++) {
                Due.is(n + ": worth 1000", x.room(p, p, 1000), true);
            }
            Due.is(n + ": best()", x.best(), 1000 * n);
            for (int p = 0; p < n; p++) {
                Due.is(n + ": worth 0", x.room(p, p, 0), true);
            }
            Due.is(n + ", again: best()", x.best(), 0);
        }
        Due.is("worth -1", people(1).room(0, 0, -1), false);
        Due.is("worth 1001", people(1).room(0, 0, 1001), false);
    }

    @Sentence(of = "Terms 3", says = "a RENT R, 0 .. 10000, in all (0 at first)")
    static void leastAndGreatestRent() {
        for (int n = 1; n <= MOST; n++) {
            ShareBench x = people(n);
            Due.is(n + ", at first: price(0)", x.price(0), 0);
            Due.is(n + ": rent(10000)", x.rent(10000), true);
            for (int room = 0; room < n; room++) {
                Due.is(n + ": price(" + room + ") of 10000", x.price(room), 10000);
            }
            Due.is(n + ": rent(0)", x.rent(0), true);
            Due.is(n + ": price(0) of 0", x.price(0), 0);
        }
        Due.is("rent(-1)", people(1).rent(-1), false);
        Due.is("rent(10001)", people(1).rent(10001), false);
    }

    @Sentence(of = "Terms 3", says = "BEST is the first one (by the first's ROOM, then the second's, and so on)")
    static void firstAndLastSharing() {
        isSharing("all worth nothing", people(MOST), 0, 1, 2, 3, 4);
        ShareBench x = people(MOST);
        for (int p = 0; p < MOST; p++) {
            x.room(p, MOST - 1 - p, 1);
        }
        isSharing("the last of 120 sharings", x, 4, 3, 2, 1, 0);
        Due.is("the last of 120 sharings: best()", x.best(), 5);
        isSharing("the second's room decides", Bench.housed(0, new int[][] {{5, 0, 0}, {0, 3, 3}, {0, 3, 3}}), 0, 1, 2);
        isSharing("the first's room decides", Bench.housed(0, new int[][] {{0, 4, 4}, {4, 0, 0}, {0, 4, 4}}), 1, 0, 2);
        isSharing("the greatest sum goes ahead",
            Bench.housed(0, new int[][] {{1, 1, 2}, {1, 1, 1}, {1, 1, 1}}), 2, 0, 1);
        isSharing("one person", people(1), 0);
    }

    @Sentence(of = "Terms 3", says = "RENTS are told n times as great, whole numbers, n R in sum")
    static void rentsThatDoNotDivide() {
        for (int n = 1; n <= MOST; n++) {
            for (int rent : new int[] {0, 1, 9999, 10000}) {
                ShareBench x = people(n);
                x.rent(rent);
                x.room(0, 0, 1000);
                x.room(n - 1, 0, 999);
                x.room(n / 2, n - 1, 7);
                long sum = 0;
                for (int room = 0; room < n; room++) {
                    sum += x.price(room);
                }
                Due.is(n + " people, R " + rent + ": sum of prices", sum, (long) n * rent);
            }
        }
        ShareBench x = people(3);
        x.rent(1);
        arePrices("a third each", x, 1, 1, 1);
    }

    @Sentence(of = "Terms 3",
        says = "nobody's WORTH (n times) of another ROOM less its RENT is above that of the own one")
    static void grudgesAtTheBound() {
        ShareBench x = two();
        Due.is("as well as the own: grudge(0, 1)", x.grudge(0, 1), 0);
        Due.is("as well as the own: check()", x.check(), 0);
        // Each likes the room before the own one by 10 better, so that all rents but one hang on another.
        int[][] down = new int[MOST][MOST];
        int[][] up = new int[MOST][MOST];
        for (int p = 0; p < MOST; p++) {
            down[p][p] = p == 0 ? 1000 : 100;
            up[4 - p][4 - p] = down[p][p];
            if (p > 0) {
                down[p][p - 1] = 110;
                up[4 - p][5 - p] = 110;
            }
        }
        arePrices("the longest chain, falling", Bench.housed(0, down), 100, 50, 0, -50, -100);
        arePrices("the longest chain, rising", Bench.housed(0, up), -100, -50, 0, 50, 100);
    }

    @Sentence(of = "Terms 3", says = "of all such the greatest RENT is the least that there can be")
    static void leastGreatestRent() {
        arePrices("nobody minds", Bench.housed(100, new int[][] {{1000, 0}, {0, 1000}}), 100, 100);
        arePrices("just so much", Bench.housed(100, new int[][] {{1000, 0}, {30, 20}}), 110, 90);
        int[][] same = new int[MOST][MOST];
        for (int p = 0; p < MOST; p++) {
            same[p][0] = 1000;
        }
        arePrices("rents below 0", Bench.housed(0, same), 4000, -1000, -1000, -1000, -1000);
        arePrices("greatest of all", Bench.housed(10000, same), 14000, 9000, 9000, 9000, 9000);
        for (int p = 0; p < MOST; p++) {
            same[p][0] = 0;
            for (int room = 1; room < MOST; room++) {
                same[p][room] = 1000;
            }
        }
        arePrices("lowest of all", Bench.housed(0, same), -4000, 1000, 1000, 1000, 1000);
        arePrices("one person", Bench.housed(10000, new int[][] {{1000}}), 10000);
    }

    @Sentence(of = "Promise 17", says = "The number of people (and ROOMS) is n")
    static void morePeopleAndFewer() {
        ShareBench x = people(MOST);
        Due.is("five: has(4)", x.has(4), 4);
        Due.is("five: who(4)", x.who(4), 4);
        Due.is("fewer: people(1)", x.people(1), true);
        Due.is("one: has(0)", x.has(0), 0);
        Due.is("one: has(1)", x.has(1), -1);
        Due.is("one: price(1)", x.price(1), NO);
        Due.is("one: who(1)", x.who(1), -1);
        Due.is("one: turned(1, 0)", x.turned(1, 0), false);
        Due.is("more: people(5)", x.people(MOST), true);
        Due.is("five again: has(4)", x.has(4), 4);
        Due.is("five again: has(5)", x.has(5), -1);
        Due.is("five again: envies(4)", x.envies(4), 0);
    }

    @Sentence(of = "Promise 17", says = "WORTHS of ROOMS and STRETCHES are 0, R 0: true")
    static void peopleBeginAnew() {
        for (int n : new int[] {3, 5, 1}) {
            ShareBench x = Bench.busy();
            Due.is("people(" + n + ")", x.people(n), true);
            Due.is(n + ": best()", x.best(), 0);
            for (int p = 0; p < n; p++) {
                Due.is(n + ": has", x.has(p), p);
                Due.is(n + ": price", x.price(p), 0);
                Due.is(n + ": grudge", x.grudge(p, 0), 0);
                Due.is(n + ": who", x.who(p), p);
                Due.is(n + ": worth of the last part", x.worth(p, n - 1, 0), 0);
                Due.is(n + ": place", x.place(p, 0), p == n - 1 ? 4 : 0);
            }
            Due.is(n + ": check()", x.check(), 0);
        }
        ShareBench x = Bench.busy();
        x.people(1);
        x.people(3);
        Due.is("by way of one person: best()", x.best(), 0);
        Due.is("by way of one person: worth(2, 2, 0)", x.worth(2, 2, 0), 0);
    }

    @Sentence(of = "Promise 17", says = "false for others")
    static void peopleOfNoNumber() {
        for (int n : Bench.outside(1, MOST)) {
            Bench.changesNothing("people(" + n + ")", x -> Bench.told(x.people(n)), 0);
        }
    }

    @Sentence(of = "Promise 18", says = "A ROOM's WORTH to a person: true")
    static void worthsOfTheFirstAndTheLast() {
        ShareBench x = people(MOST);
        Due.is("room(4, 0, 1000)", x.room(4, 0, 1000), true);
        Due.is("room(0, 4, 999)", x.room(0, 4, 999), true);
        Due.is("best()", x.best(), 1999);
        isSharing("crossed", x, 4, 1, 2, 3, 0);
        Due.is("room(4, 0, 0)", x.room(4, 0, 0), true);
        Due.is("best() of one less", x.best(), 999);
        isSharing("less crossed", x, 4, 0, 1, 2, 3);
        Due.is("the same again", x.room(0, 4, 999), true);
        Due.is("best() of the same", x.best(), 999);
    }

    @Sentence(of = "Promise 18", says = "false: no such person")
    static void roomOfNoPerson() {
        for (int person : Bench.outside(0, 2)) {
            Bench.changesNothing("room(" + person + ", 0, 1)", x -> Bench.told(x.room(person, 0, 1)), 0);
        }
        ShareBench x = people(MOST);
        Due.is("five: room(5, 0, 1)", x.room(5, 0, 1), false);
    }

    @Sentence(of = "Promise 18", says = "false: no such person, ROOM")
    static void noRoomOfAPerson() {
        for (int room : Bench.outside(0, 2)) {
            Bench.changesNothing("room(0, " + room + ", 1)", x -> Bench.told(x.room(0, room, 1)), 0);
        }
        ShareBench x = people(MOST);
        Due.is("five: room(0, 5, 1)", x.room(0, 5, 1), false);
        Due.is("five: room(1, -1, 1)", x.room(1, -1, 1), false);
    }

    @Sentence(of = "Promise 18", says = "false: no such person, ROOM, WORTH")
    static void roomOfNoWorth() {
        for (int worth : Bench.outside(0, 1000)) {
            Bench.changesNothing("room(1, 1, " + worth + ")", x -> Bench.told(x.room(1, 1, worth)), 0);
        }
    }

    @Sentence(of = "Promise 19", says = "R: true")
    static void noRentAndTheGreatest() {
        ShareBench x = two();
        Due.is("rent(0)", x.rent(0), true);
        arePrices("R 0", x, 20, -20);
        Due.is("rent(10000)", x.rent(10000), true);
        arePrices("R 10000", x, 10020, 9980);
        Due.is("rent(1)", x.rent(1), true);
        arePrices("R 1", x, 21, -19);
    }

    @Sentence(of = "Promise 19", says = "false for others")
    static void noSuchRent() {
        for (int rent : Bench.outside(0, 10000)) {
            Bench.changesNothing("rent(" + rent + ")", x -> Bench.told(x.rent(rent)), 0);
        }
    }

    @Sentence(of = "Promise 20", says = "The greatest sum of WORTHS")
    static void leastAndGreatestSum() {
        Due.is("one person: best()", people(1).best(), 0);
        ShareBench x = people(MOST);
        Due.is("five: best()", x.best(), 0);
        x.room(2, 3, 1);
        Due.is("a single worth: best()", x.best(), 1);
        x.room(2, 3, 0);
        for (int p = 0; p < MOST; p++) {
            x.room(p, MOST - 1 - p, 2);
        }
        Due.is("by the last of all sharings: best()", x.best(), 10);
        for (int at = 0; at < MOST * MOST; at++) {
            x.room(at / MOST, at % MOST, 1000);
        }
        Due.is("all worth 1000: best()", x.best(), 5000);
    }

    @Sentence(of = "Promise 21", says = "The ROOM of a person by BEST")
    static void roomsOfTheFirstAndTheLast() {
        ShareBench x = people(MOST);
        x.room(0, 4, 1);
        isSharing("the first has the last room", x, 4, 0, 1, 2, 3);
        x.room(0, 4, 0);
        x.room(4, 0, 1);
        isSharing("the last has the first room", x, 1, 2, 3, 4, 0);
    }

    @Sentence(of = "Promise 21", says = "NONE: no such person")
    static void roomOfNobody() {
        for (int n = 1; n <= MOST; n++) {
            ShareBench x = people(MOST);
            x.people(n);
            for (int person : Bench.outside(0, n - 1)) {
                Due.is(n + ": has(" + person + ")", x.has(person), -1);
            }
        }
        Bench.changesNothing("has(3)", x -> x.has(3), -1);
        Bench.changesNothing("has(-1)", x -> x.has(-1), -1);
    }

    @Sentence(of = "Promise 22", says = "The RENT (n times) of a ROOM")
    static void pricesOfTheFirstAndTheLast() {
        arePrices("two", two(), 120, 80);
        ShareBench x = people(1);
        x.rent(7);
        x.room(0, 0, 1000);
        arePrices("one person pays all", x, 7);
        x = people(MOST);
        x.rent(7);
        arePrices("five times as great", x, 7, 7, 7, 7, 7);
        arePrices("below 0", Bench.housed(10, new int[][] {{40, 10}, {100, 20}}), 40, -20);
    }

    @Sentence(of = "Promise 22", says = "Long.MIN_VALUE: no such ROOM")
    static void priceOfNoRoom() {
        for (int n = 1; n <= MOST; n++) {
            ShareBench x = people(MOST);
            x.people(n);
            for (int room : Bench.outside(0, n - 1)) {
                Due.is(n + ": price(" + room + ")", x.price(room), NO);
            }
        }
        Bench.changesNothing("price(3)", x -> x.price(3), NO);
        Bench.changesNothing("price(-1)", x -> x.price(-1), NO);
    }

    @Sentence(of = "Promise 23", says = "a person likes the ROOM of another one, at its RENT, better than the own one")
    static void grudgesAtTheEdges() {
        ShareBench x = two();
        Due.is("none: grudge(0, 1)", x.grudge(0, 1), 0);
        Due.is("below 0: grudge(1, 0)", x.grudge(1, 0), -80);
        Due.is("against oneself: grudge(0, 0)", x.grudge(0, 0), 0);
        Due.is("against oneself: grudge(1, 1)", x.grudge(1, 1), 0);
        Due.is("one person: grudge(0, 0)", new ShareBench().grudge(0, 0), 0);
    }

    @Sentence(of = "Promise 23", says = "each ROOM k at a RENT of price(k) and what is told by turned() more")
    static void grudgesWithTheMostMore() {
        ShareBench x = two();
        x.turned(1, 100000);
        x.turned(0, -100000);
        Due.is("greatest: grudge(0, 1)", x.grudge(0, 1), 200000);
        Due.is("least: grudge(1, 0)", x.grudge(1, 0), -200080);
        Due.is("against oneself: grudge(0, 0)", x.grudge(0, 0), 0);
        x.turned(1, -100000);
        x.turned(0, 100000);
        Due.is("least: grudge(0, 1)", x.grudge(0, 1), -200000);
        Due.is("greatest: grudge(1, 0)", x.grudge(1, 0), 199920);
    }

    @Sentence(of = "Promise 23", says = "Long.MIN_VALUE: no such people")
    static void grudgesOfNobody() {
        for (int no : Bench.outside(0, 2)) {
            Bench.changesNothing("grudge(0, " + no + ")", x -> x.grudge(0, no), NO);
            Bench.changesNothing("grudge(" + no + ", 0)", x -> x.grudge(no, 0), NO);
            Bench.changesNothing("grudge(" + no + ", " + no + ")", x -> x.grudge(no, no), NO);
        }
        ShareBench x = people(MOST);
        Due.is("five: grudge(5, 4)", x.grudge(5, 4), NO);
        Due.is("five: grudge(4, 5)", x.grudge(4, 5), NO);
        x.people(1);
        Due.is("one: grudge(0, 1)", x.grudge(0, 1), NO);
        Due.is("one: grudge(1, 0)", x.grudge(1, 0), NO);
    }

    @Sentence(of = "Promise 24", says = "(n times, -100000 .. 100000;")
    static void leastAndMostMore() {
        ShareBench x = two();
        Due.is("turned(0, 100000)", x.turned(0, 100000), true);
        Due.is("100000 more: grudge(1, 0)", x.grudge(1, 0), 99920);
        Due.is("turned(0, -100000)", x.turned(0, -100000), true);
        Due.is("100000 less, not added up: grudge(0, 1)", x.grudge(0, 1), 100000);
        Due.is("turned(0, 1)", x.turned(0, 1), true);
        Due.is("1 more: grudge(0, 1)", x.grudge(0, 1), -1);
        Due.is("turned(0, 0)", x.turned(0, 0), true);
        Due.is("nothing more: check()", x.check(), 0);
        Due.is("the last room: turned(1, 5)", x.turned(1, 5), true);
        Due.is("the last room: grudge(0, 1)", x.grudge(0, 1), 5);
    }

    @Sentence(of = "Promise 24", says = "0 at first")
    static void nothingMoreAtFirst() {
        Due.is("new: check()", new ShareBench().check(), 0);
        for (int n = 1; n <= MOST; n++) {
            ShareBench x = people(n);
            x.rent(123);
            x.room(0, n - 1, 45);
            Due.is(n + ": check()", x.check(), 0);
        }
    }

    @Sentence(of = "Promise 24", says = "0 at first, and behind people(), room(), rent()")
    static void nothingMoreBehindChanges() {
        ShareBench x = two();
        turnAll(x);
        Due.is("behind room() of the same worth", x.room(0, 0, 80), true);
        nothingIsMore("behind room()", x);
        turnAll(x);
        Due.is("behind rent() of the same R", x.rent(100), true);
        nothingIsMore("behind rent()", x);
        turnAll(x);
        Due.is("behind people() of the same number", x.people(2), true);
        Due.is("behind people(): grudge(0, 1)", x.grudge(0, 1), 0);
        Due.is("behind people(): check()", x.check(), 0);
        x = people(MOST);
        x.turned(4, 9);
        x.people(2);
        x.people(MOST);
        Due.is("by way of two people: grudge(0, 4)", x.grudge(0, 4), 0);
        Due.is("by way of two people: check()", x.check(), 0);
    }

    private static void turnAll(ShareBench x) {
        x.turned(0, 9);
        x.turned(1, 4);
        Due.is("turned: grudge(0, 1)", x.grudge(0, 1), -5);
        Due.is("turned: check()", x.check(), 1);
    }

    private static void nothingIsMore(String name, ShareBench x) {
        Due.is(name + ": grudge(0, 1)", x.grudge(0, 1), 0);
        Due.is(name + ": grudge(1, 0)", x.grudge(1, 0), -80);
        Due.is(name + ": check()", x.check(), 0);
    }

    @Sentence(of = "Promise 24", says = "in a ROOM's RENT, for grudge(), check(): true")
    static void moreIsForGrudgesAlone() {
        ShareBench x = two();
        x.turned(0, 100000);
        x.turned(1, -100000);
        arePrices("as they were", x, 120, 80);
        isSharing("as it was", x, 1, 0);
        Due.is("as it was: best()", x.best(), 150);
        Due.is("for check()", x.check(), 2);
        Due.is("for grudge()", x.grudge(1, 0), 199920);
    }

    @Sentence(of = "Promise 24", says = "true; false for others")
    static void turnedRefused() {
        for (int more : Bench.outside(-100000, 100000)) {
            Bench.changesNothing("turned(0, " + more + ")", x -> Bench.told(x.turned(0, more)), 0);
        }
        for (int room : Bench.outside(0, 2)) {
            Bench.changesNothing("turned(" + room + ", 1)", x -> Bench.told(x.turned(room, 1)), 0);
        }
        ShareBench x = people(MOST);
        Due.is("five: turned(5, 1)", x.turned(5, 1), false);
        Due.is("five: turned(4, 1)", x.turned(4, 1), true);
    }

    @Sentence(of = "Promise 25", says = "Whether the RENTS with what is more are such as 3. wants them: 0")
    static void rentsAsWanted() {
        Due.is("one person: check()", people(1).check(), 0);
        ShareBench x = two();
        Due.is("two: check()", x.check(), 0);
        x.turned(0, 0);
        x.turned(1, 0);
        Due.is("turned by nothing: check()", x.check(), 0);
        x.turned(0, 3);
        x.turned(0, 0);
        Due.is("turned and back: check()", x.check(), 0);
    }

    @Sentence(of = "Promise 25", says = "1 they are not n R in sum")
    static void sumIsWrongByOne() {
        ShareBench x = two();
        x.turned(0, 1);
        Due.is("one too much: check()", x.check(), 1);
        x.turned(0, -1);
        Due.is("one too little, and a grudge: check()", x.check(), 1);
        x.turned(0, 100000);
        x.turned(1, 100000);
        Due.is("far too much: check()", x.check(), 1);
        x.turned(1, -100000);
        Due.is("the sum is right again: check()", x.check(), 2);
        x = people(1);
        x.turned(0, -1);
        Due.is("one person: check()", x.check(), 1);
        x = people(MOST);
        x.turned(4, 1);
        Due.is("the last room: check()", x.check(), 1);
    }

    @Sentence(of = "Promise 25", says = "2 a person has a grudge above 0")
    static void grudgeOfOne() {
        ShareBench x = two();
        x.turned(0, -1);
        x.turned(1, 1);
        Due.is("the first has one: check()", x.check(), 2);
        x.turned(0, 41);
        x.turned(1, -41);
        Due.is("the second has one, and the greatest could be less: check()", x.check(), 2);
        x.turned(0, 40);
        x.turned(1, -40);
        Due.is("a grudge of 0 is none above 0: check()", x.check(), 3);
        x = people(MOST);
        x.turned(3, 1);
        x.turned(4, -1);
        Due.is("all like the last room better: check()", x.check(), 2);
        x = three();
        x.turned(0, -1);
        x.turned(2, 1);
        Due.is("the least grudge that there can be: grudge(1, 0)", x.grudge(1, 0), 1);
        Due.is("the least grudge that there can be: check()", x.check(), 2);
    }

    @Sentence(of = "Promise 25", says = "3 the greatest one could be less")
    static void greatestCouldBeLessByOne() {
        ShareBench x = two();
        x.turned(0, 1);
        x.turned(1, -1);
        Due.is("by 1: check()", x.check(), 3);
        x.turned(0, 0);
        x.turned(1, 0);
        Due.is("by nothing: check()", x.check(), 0);
        x = Bench.housed(0, new int[][] {{1000, 0}, {0, 1000}});
        x.turned(0, 1);
        x.turned(1, -1);
        Due.is("the first room: check()", x.check(), 3);
        x.turned(0, -1);
        x.turned(1, 1);
        Due.is("the last room: check()", x.check(), 3);
        x.turned(0, -2000);
        x.turned(1, 0);
        Due.is("the sum goes ahead: check()", x.check(), 1);
        // One of the two greatest goes down, the other one up.
        x = three();
        arePrices("two greatest ones", x, 5, -10, 5);
        x.turned(0, -1);
        x.turned(1, -1);
        x.turned(2, 2);
        Due.is("two greatest ones: check()", x.check(), 3);
    }
}
