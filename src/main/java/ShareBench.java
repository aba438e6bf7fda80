import java.util.Arrays;

/** A bench of fair shares: a necklace, a net of thirds, rooms with rents, and a line under a knife. */
public final class ShareBench {
    public static final int NONE = -1;

    private static final int MOST_PEOPLE = 5;

    private final Necklace necklace;
    private final Net thirds;
    private final Rooms home;
    private final Line strip;

    public ShareBench() {
        necklace = new Necklace();
        thirds = new Net();
        home = new Rooms();
        strip = new Line();
    }

    public int bead(int sort) {
        return necklace.string(sort);
    }

    public boolean beads(int n) {
        return necklace.shorten(n);
    }

    public int count(int sort) {
        return necklace.countOf(sort);
    }

    public int least() {
        return necklace.fewestCuts();
    }

    public int cut(int k) {
        return necklace.cutOfFirstRow(k);
    }

    public int rows() {
        return necklace.countRows();
    }

    public int halves(int cuts) {
        return necklace.halvedBy(cuts);
    }

    public boolean net(int size) {
        return thirds.resize(size);
    }

    public boolean mark(int x, int y, int mark) {
        return thirds.setMark(x, y, mark);
    }

    public int marked(int x, int y) {
        return thirds.markAt(x, y);
    }

    public int all() {
        return thirds.countFull();
    }

    public int doors() {
        return thirds.countOuterDoors();
    }

    public int doorsAll() {
        return thirds.countDoors();
    }

    public int walk(int door) {
        return thirds.walkFrom(door);
    }

    public int ended(int what) {
        return thirds.walkEnd(what);
    }

    public boolean people(int n) {
        if (n < 1 || n > MOST_PEOPLE) {
            return false;
        }
        home.invite(n);
        strip.invite(n);
        return true;
    }

    public boolean room(int person, int room, int worth) {
        return home.setWorth(person, room, worth);
    }

    public boolean rent(int all) {
        return home.setRent(all);
    }

    public int best() {
        return home.greatestSum();
    }

    public int has(int person) {
        return home.roomOf(person);
    }

    public long price(int room) {
        return home.priceOf(room);
    }

    public long grudge(int person, int other) {
        return home.grudgeOf(person, other);
    }

    public boolean turned(int room, int more) {
        return home.setMore(room, more);
    }

    public int check() {
        return home.faultOfRents();
    }

    public boolean line(int n) {
        return strip.resize(n);
    }

    public boolean stretch(int person, int stretch, int worth) {
        return strip.setWorth(person, stretch, worth);
    }

    public int who(int k) {
        return strip.holderOf(k);
    }

    public long place(int k, int what) {
        return strip.endOf(k, what);
    }

    public long worth(int person, int k, int what) {
        return strip.worthOf(person, k, what);
    }

    public int envies(int person) {
        return strip.countEnvied(person);
    }

    /**
     * Counts of all sorts travel in one int, a byte for each sort: a count is at most 24, so that a sum
     * or a difference of such ints is the sums or differences of all the counts at once.
     */
    private static final class Necklace {
        private static final int SORTS = 4;
        private static final int MOST = 24;
        private static final int BITS = 8;
        private static final int ONE_EACH = 0x01010101;
        private static final int COUNT_BITS = 0x7F7F7F7F;
        private static final int SPARE_BITS = 0x80808080;
        /** Far above the steps of a search: a row of 24 beads has 8855 rows of four cuts. */
        private static final int STEPS = 1000000;

        /** The beads ahead of each place. */
        private final int[] ahead;
        /** Where part p ends, at p + 2; at 1 stands the begin of the first part. */
        private final int[] ends;
        /** What the owner of part p has by its end, at p + 2; nobody has anything at 0 and 1. */
        private final int[] owned;
        private final int[] firstRow;
        private int beads;
        private boolean searched;
        private int fewest;
        private int rowCount;

        Necklace() {
            ahead = new int[MOST + 1];
            ends = new int[MOST + 2];
            owned = new int[MOST + 2];
            firstRow = new int[MOST];
        }

        int string(int sort) {
            if (!isSort(sort) || beads >= MOST) {
                return NONE;
            }
            ahead[beads + 1] = ahead[beads] + (1 << (BITS * sort));
            beads++;
            searched = false;
            return beads;
        }

        boolean shorten(int n) {
            if (n < 0 || n > beads) {
                return false;
            }
            beads = n;
            searched = false;
            return true;
        }

        int countOf(int sort) {
            return isSort(sort) ? (ahead[beads] >>> (BITS * sort)) & 0xFF : NONE;
        }

        int fewestCuts() {
            if (beads < 2) {
                return NONE;
            }
            search();
            return fewest;
        }

        int cutOfFirstRow(int k) {
            return k >= 0 && k < fewestCuts() ? firstRow[k] : NONE;
        }

        int countRows() {
            if (beads < 2) {
                return NONE;
            }
            search();
            return rowCount;
        }

        int halvedBy(int cuts) {
            int places = (1 << beads) - 2;
            if (beads < 2 || (cuts & ~places) != 0) {
                return NONE;
            }
            int first = 0;
            boolean toFirst = true;
            for (int k = 0; k < beads; k++) {
                if (((cuts >>> k) & 1) == 1) {
                    toFirst = !toFirst;
                }
                if (toFirst) {
                    first += ahead[k + 1] - ahead[k];
                }
            }
            return isWithinHalf(first) && isWithinHalf(ahead[beads] - first) ? 1 : 0;
        }

        private static boolean isSort(int sort) {
            return sort >= 0 && sort < SORTS;
        }

        /**
         * Whether of no sort there is more than half, rounded up: the necklace is halved just when that
         * holds for both people. A spare bit above each count goes out where the count is too great.
         */
        private boolean isWithinHalf(int share) {
            int half = ((ahead[beads] + ONE_EACH) >>> 1) & COUNT_BITS;
            return (((half | SPARE_BITS) - share) & SPARE_BITS) == SPARE_BITS;
        }

        private void search() {
            if (searched) {
                return;
            }
            searched = true;
            rowCount = 0;
            for (int many = 0; many < beads && rowCount == 0; many++) {
                fewest = many;
                searchRows(many);
            }
        }

        /** Goes through the rows of so many cuts by their numbers; a cut goes back once its part is too much. */
        private void searchRows(int many) {
            int part = 0;
            ends[1] = 0;
            ends[2] = 0;
            for (int step = 0; step < STEPS && part >= 0; step++) {
                if (part == many) {
                    if (takesUpTo(part, beads)) {
                        keepRow(many);
                    }
                    part--;
                } else if (ends[part + 2] < beads - many + part && takesUpTo(part, ends[part + 2] + 1)) {
                    part++;
                    ends[part + 2] = ends[part + 1];
                } else {
                    part--;
                }
            }
        }

        private boolean takesUpTo(int part, int end) {
            ends[part + 2] = end;
            owned[part + 2] = owned[part] + ahead[end] - ahead[ends[part + 1]];
            return isWithinHalf(owned[part + 2]);
        }

        private void keepRow(int many) {
            if (rowCount == 0) {
                System.arraycopy(ends, 2, firstRow, 0, many);
            }
            rowCount++;
        }
    }

    /**
     * A third has three corners and three sides, each side numbered as the corner across from it: along
     * side 0 x stays the same, along side 1 y, along side 2 z. So a side leads from a third of kind 0
     * to one of kind 1 and back, whichever side it is.
     */
    private static final class Net {
        private static final int MOST = 20;
        private static final int WIDTH = MOST + 1;
        private static final int CORNERS = 3;
        private static final int UPRIGHT = 0;
        private static final int TURNED_OVER = 1;
        private static final int SIDE_Z = 2;
        private static final int EVERY_MARK = 7;

        private final int[] marks;
        private int size;
        private boolean walked;
        /** The third at which the latest walk is, then has ended. */
        private int atX;
        private int atY;
        private int atKind;
        /** The door by which the latest walk went out, NONE if it ended inside. */
        private int outBy;

        Net() {
            marks = new int[WIDTH * WIDTH];
            size = 1;
            markAsAtFirst();
        }

        boolean resize(int n) {
            if (n < 1 || n > MOST) {
                return false;
            }
            size = n;
            walked = false;
            markAsAtFirst();
            return true;
        }

        boolean setMark(int x, int y, int mark) {
            if (!isPoint(x, y) || !mayBear(x, y, mark)) {
                return false;
            }
            marks[x * WIDTH + y] = mark;
            walked = false;
            return true;
        }

        int markAt(int x, int y) {
            return isPoint(x, y) ? marks[x * WIDTH + y] : NONE;
        }

        int countFull() {
            int full = 0;
            for (int x = 0; x < size; x++) {
                for (int y = 0; x + y < size; y++) {
                    full += isFull(x, y, UPRIGHT) ? 1 : 0;
                    full += x + y < size - 1 && isFull(x, y, TURNED_OVER) ? 1 : 0;
                }
            }
            return full;
        }

        int countOuterDoors() {
            int doors = 0;
            for (int door = 0; door < size; door++) {
                doors += isOuterDoor(door) ? 1 : 0;
            }
            return doors;
        }

        /** Each side of the net is a side of just one third of kind 0. */
        int countDoors() {
            int doors = 0;
            for (int x = 0; x < size; x++) {
                for (int y = 0; x + y < size; y++) {
                    for (int side = 0; side < CORNERS; side++) {
                        doors += isDoor(x, y, UPRIGHT, side) ? 1 : 0;
                    }
                }
            }
            return doors;
        }

        int walkFrom(int door) {
            if (!isOuterDoor(door)) {
                return NONE;
            }
            walked = true;
            outBy = NONE;
            atX = door;
            atY = size - 1 - door;
            atKind = UPRIGHT;
            int side = SIDE_Z;
            int gone = 1;
            // A walk comes into no third twice, and a net has size * size of them.
            for (int step = 0; step < size * size; step++) {
                side = otherDoor(side);
                if (side == NONE) {
                    return gone;
                }
                if (atKind == UPRIGHT && side == SIDE_Z && atX + atY == size - 1) {
                    outBy = atX;
                    return gone;
                }
                goThrough(side);
                gone++;
            }
            return gone;
        }

        int walkEnd(int what) {
            if (!walked) {
                return NONE;
            }
            switch (what) {
                case 0:
                    return outBy == NONE ? 1 : 0;
                case 1:
                    return atX;
                case 2:
                    return atY;
                case 3:
                    return atKind;
                case 4:
                    return outBy;
                default:
                    return NONE;
            }
        }

        private void markAsAtFirst() {
            for (int x = 0; x <= size; x++) {
                for (int y = 0; x + y <= size; y++) {
                    marks[x * WIDTH + y] = x > 0 ? 0 : y > 0 ? 1 : 2;
                }
            }
        }

        /** The sum of x and y is not built: for great numbers it would wrap around. */
        private boolean isPoint(int x, int y) {
            return x >= 0 && x <= size && y >= 0 && y <= size - x;
        }

        private boolean mayBear(int x, int y, int mark) {
            return mark == 0 && x > 0 || mark == 1 && y > 0 || mark == 2 && size - x - y > 0;
        }

        private int cornerMark(int x, int y, int kind, int corner) {
            int alongX = corner == 0 ? 1 : 0;
            int alongY = corner == 1 ? 1 : 0;
            if (kind == UPRIGHT) {
                return markAt(x + alongX, y + alongY);
            }
            return markAt(x + 1 - alongX, y + 1 - alongY);
        }

        private boolean isFull(int x, int y, int kind) {
            int seen = 0;
            for (int corner = 0; corner < CORNERS; corner++) {
                seen |= 1 << cornerMark(x, y, kind, corner);
            }
            return seen == EVERY_MARK;
        }

        private boolean isDoor(int x, int y, int kind, int side) {
            int one = cornerMark(x, y, kind, (side + 1) % CORNERS);
            int other = cornerMark(x, y, kind, (side + 2) % CORNERS);
            return one == 0 && other == 1 || one == 1 && other == 0;
        }

        private boolean isOuterDoor(int door) {
            return door >= 0 && door < size && isDoor(door, size - 1 - door, UPRIGHT, SIDE_Z);
        }

        /** The side across from the corner that is marked like the one across from this door. */
        private int otherDoor(int door) {
            int across = cornerMark(atX, atY, atKind, door);
            if (across != 0 && across != 1) {
                return NONE;
            }
            int next = (door + 1) % CORNERS;
            return cornerMark(atX, atY, atKind, next) == across ? next : (door + 2) % CORNERS;
        }

        private void goThrough(int side) {
            int way = atKind == UPRIGHT ? -1 : 1;
            atX += side == 0 ? way : 0;
            atY += side == 1 ? way : 0;
            atKind = atKind == UPRIGHT ? TURNED_OVER : UPRIGHT;
        }
    }

    /** Rents are held n times as great, as the document tells them. */
    private static final class Rooms {
        private static final int MOST_WORTH = 1000;
        private static final int MOST_RENT = 10000;
        private static final int MOST_MORE = 100000;
        private static final int MOST_SHARINGS = 120;

        private final int[][] worths;
        private final int[] trial;
        private final int[] own;
        private final int[] belowTop;
        private final long[] prices;
        private final int[] more;
        private int count;
        private int rentInAll;
        private int greatest;
        private boolean settled;

        Rooms() {
            worths = new int[MOST_PEOPLE][MOST_PEOPLE];
            trial = new int[MOST_PEOPLE];
            own = new int[MOST_PEOPLE];
            belowTop = new int[MOST_PEOPLE];
            prices = new long[MOST_PEOPLE];
            more = new int[MOST_PEOPLE];
            count = 1;
        }

        void invite(int n) {
            count = n;
            rentInAll = 0;
            for (int person = 0; person < MOST_PEOPLE; person++) {
                Arrays.fill(worths[person], 0);
            }
            beginAnew();
        }

        boolean setWorth(int person, int room, int worth) {
            if (!isOne(person) || !isOne(room) || worth < 0 || worth > MOST_WORTH) {
                return false;
            }
            worths[person][room] = worth;
            beginAnew();
            return true;
        }

        boolean setRent(int inAll) {
            if (inAll < 0 || inAll > MOST_RENT) {
                return false;
            }
            rentInAll = inAll;
            beginAnew();
            return true;
        }

        boolean setMore(int room, int what) {
            if (!isOne(room) || what < -MOST_MORE || what > MOST_MORE) {
                return false;
            }
            more[room] = what;
            return true;
        }

        int greatestSum() {
            settle();
            return greatest;
        }

        int roomOf(int person) {
            if (!isOne(person)) {
                return NONE;
            }
            settle();
            return own[person];
        }

        long priceOf(int room) {
            if (!isOne(room)) {
                return Long.MIN_VALUE;
            }
            settle();
            return prices[room];
        }

        long grudgeOf(int person, int other) {
            if (!isOne(person) || !isOne(other)) {
                return Long.MIN_VALUE;
            }
            settle();
            return gainAt(person, own[other]) - gainAt(person, own[person]);
        }

        int faultOfRents() {
            settle();
            long sum = 0;
            for (int room = 0; room < count; room++) {
                sum += asked(room);
            }
            if (sum != (long) count * rentInAll) {
                return 1;
            }
            if (hasAnyGrudge()) {
                return 2;
            }
            return couldTopBeLess() ? 3 : 0;
        }

        /** People and rooms are as many, and numbered alike. */
        private boolean isOne(int number) {
            return number >= 0 && number < count;
        }

        private void beginAnew() {
            settled = false;
            Arrays.fill(more, 0);
        }

        private void settle() {
            if (settled) {
                return;
            }
            settled = true;
            findBest();
            findPrices();
        }

        private void findBest() {
            for (int person = 0; person < count; person++) {
                trial[person] = person;
            }
            greatest = NONE;
            boolean isNew = true;
            for (int turn = 0; turn < MOST_SHARINGS && isNew; turn++) {
                int sum = sumOfTrial();
                if (sum > greatest) {
                    greatest = sum;
                    System.arraycopy(trial, 0, own, 0, count);
                }
                isNew = nextTrial();
            }
        }

        private int sumOfTrial() {
            int sum = 0;
            for (int person = 0; person < count; person++) {
                sum += worths[person][trial[person]];
            }
            return sum;
        }

        /** The next sharing by its numbers; false if this was the last one. */
        private boolean nextTrial() {
            int turn = count - 2;
            while (turn >= 0 && trial[turn] > trial[turn + 1]) {
                turn--;
            }
            if (turn < 0) {
                return false;
            }
            int greater = count - 1;
            while (greater > turn && trial[greater] < trial[turn]) {
                greater--;
            }
            swapTrial(turn, greater);
            for (int low = turn + 1, high = count - 1; low < high; low++, high--) {
                swapTrial(low, high);
            }
            return true;
        }

        private void swapTrial(int one, int other) {
            int kept = trial[one];
            trial[one] = trial[other];
            trial[other] = kept;
        }

        /**
         * With the greatest rent held at 0 the others are as great as they can be without a grudge;
         * then the whole row is lifted to its sum, and no other row has so low a greatest rent.
         */
        private void findPrices() {
            Arrays.fill(belowTop, 0);
            // A chain of grudges has fewer links than there are rooms.
            for (int round = 0; round < count; round++) {
                for (int person = 0; person < count; person++) {
                    lowerOwn(person);
                }
            }
            int sum = 0;
            for (int room = 0; room < count; room++) {
                sum += belowTop[room];
            }
            for (int room = 0; room < count; room++) {
                prices[room] = (long) count * belowTop[room] + rentInAll - sum;
            }
        }

        private void lowerOwn(int person) {
            int mine = own[person];
            for (int room = 0; room < count; room++) {
                int bound = belowTop[room] + worths[person][mine] - worths[person][room];
                belowTop[mine] = Math.min(belowTop[mine], bound);
            }
        }

        private long asked(int room) {
            return prices[room] + more[room];
        }

        private long gainAt(int person, int room) {
            return (long) count * worths[person][room] - asked(room);
        }

        private boolean hasAnyGrudge() {
            for (int person = 0; person < count; person++) {
                for (int room = 0; room < count; room++) {
                    if (gainAt(person, room) > gainAt(person, own[person])) {
                        return true;
                    }
                }
            }
            return false;
        }

        private boolean couldTopBeLess() {
            long leastTop = prices[0];
            long top = asked(0);
            for (int room = 1; room < count; room++) {
                leastTop = Math.max(leastTop, prices[room]);
                top = Math.max(top, asked(room));
            }
            return top > leastTop;
        }
    }

    /**
     * All places and worths are whole numbers of pieces, unit of which are one. The unit is the number
     * of people times a worth for each cut, at most 5 * 30^4, so that nothing here leaves a long.
     */
    private static final class Line {
        private static final int MOST = 30;
        private static final int MOST_WORTH = 30;
        /** Euclid's steps on two longs are fewer. */
        private static final int STEPS = 100;

        private final int[][] worths;
        /** What the stretches ahead of each are worth to each person. */
        private final int[][] ahead;
        /** Where part k ends, at k + 1; at 0 the begin of the line. */
        private final long[] ends;
        private final int[] holders;
        private final boolean[] served;
        private int count;
        private int stretches;
        private long unit;
        private boolean shared;
        /** What the person who spoke last said: a place in pieces, finer ones than those of unit by saidFiner. */
        private long said;
        private long saidFiner;

        Line() {
            worths = new int[MOST_PEOPLE][MOST];
            ahead = new int[MOST_PEOPLE][MOST + 1];
            ends = new long[MOST_PEOPLE + 1];
            holders = new int[MOST_PEOPLE];
            served = new boolean[MOST_PEOPLE];
            count = 1;
            stretches = 1;
            unit = 1;
        }

        void invite(int n) {
            count = n;
            clearWorths();
        }

        boolean resize(int n) {
            if (n < 1 || n > MOST) {
                return false;
            }
            stretches = n;
            clearWorths();
            return true;
        }

        boolean setWorth(int person, int stretch, int worth) {
            if (!isOne(person) || stretch < 0 || stretch >= stretches || worth < 0 || worth > MOST_WORTH) {
                return false;
            }
            worths[person][stretch] = worth;
            shared = false;
            return true;
        }

        int holderOf(int part) {
            if (!isOne(part)) {
                return NONE;
            }
            share();
            return holders[part];
        }

        long endOf(int part, int what) {
            if (!isOne(part)) {
                return NONE;
            }
            share();
            return inLeastTerms(ends[part + 1], what);
        }

        long worthOf(int person, int part, int what) {
            if (!isOne(person) || !isOne(part)) {
                return NONE;
            }
            share();
            return inLeastTerms(piecesOf(person, part), what);
        }

        int countEnvied(int person) {
            if (!isOne(person)) {
                return NONE;
            }
            share();
            long mine = 0;
            for (int part = 0; part < count; part++) {
                if (holders[part] == person) {
                    mine = piecesOf(person, part);
                }
            }
            int envied = 0;
            for (int part = 0; part < count; part++) {
                envied += piecesOf(person, part) > mine ? 1 : 0;
            }
            return envied;
        }

        /** People and parts are as many, and numbered alike. */
        private boolean isOne(int number) {
            return number >= 0 && number < count;
        }

        private void clearWorths() {
            for (int person = 0; person < MOST_PEOPLE; person++) {
                Arrays.fill(worths[person], 0);
            }
            shared = false;
        }

        private void share() {
            if (shared) {
                return;
            }
            shared = true;
            for (int person = 0; person < count; person++) {
                served[person] = false;
                for (int k = 0; k < stretches; k++) {
                    ahead[person][k + 1] = ahead[person][k] + worths[person][k];
                }
            }
            unit = count;
            ends[0] = 0;
            for (int part = 0; part < count - 1; part++) {
                cutOff(part);
            }
            giveRest();
        }

        private void cutOff(int part) {
            int first = NONE;
            long place = 0;
            long finer = 1;
            for (int person = 0; person < count; person++) {
                if (!served[person]) {
                    speak(person, ends[part]);
                    if (first == NONE || said * finer < place * saidFiner) {
                        first = person;
                        place = said;
                        finer = saidFiner;
                    }
                }
            }
            if (first == NONE) {
                return;
            }
            for (int k = 0; k <= part; k++) {
                ends[k] *= finer;
            }
            unit *= finer;
            ends[part + 1] = place;
            holders[part] = first;
            served[first] = true;
        }

        private void giveRest() {
            for (int person = 0; person < count; person++) {
                if (!served[person]) {
                    holders[count - 1] = person;
                }
            }
            ends[count] = stretches * unit;
        }

        private void speak(int person, long from) {
            said = from;
            saidFiner = 1;
            long whole = ahead[person][stretches];
            if (whole == 0 || count == 0) {
                return;
            }
            long wanted = piecesAhead(person, from) + whole * (unit / count);
            int k = 0;
            while (k < stretches - 1 && ahead[person][k + 1] * unit < wanted) {
                k++;
            }
            saidFiner = worths[person][k];
            said = k * unit * saidFiner + wanted - ahead[person][k] * unit;
        }

        private long piecesAhead(int person, long place) {
            int k = unit == 0 ? 0 : (int) (place / unit);
            if (k >= stretches) {
                return ahead[person][stretches] * unit;
            }
            return ahead[person][k] * unit + worths[person][k] * (place - k * unit);
        }

        private long piecesOf(int person, int part) {
            return piecesAhead(person, ends[part + 1]) - piecesAhead(person, ends[part]);
        }

        private long inLeastTerms(long pieces, int what) {
            long common = greatestCommon(pieces, unit);
            if (common == 0 || what != 0 && what != 1) {
                return NONE;
            }
            return (what == 0 ? pieces : unit) / common;
        }

        private static long greatestCommon(long one, long other) {
            for (int step = 0; step < STEPS && other != 0; step++) {
                long rest = one % other;
                one = other;
                other = rest;
            }
            return one;
        }
    }
}
