import java.util.Arrays;
import java.util.NoSuchElementException;

/**
 * The plain side of a house: a row of events alone is kept, and every answer is worked out from it anew.
 *
 * What is kept is the row and the number of refused events. The other objects are paper to reckon on:
 * they are made once, in the constructor, and wiped for each answer, so that a call makes no object
 * but the exception that it throws.
 */
public final class PlainWarehouse {
    private static final int COMES = 0;
    private static final int MOVES = 1;
    private static final int GOES = 2;
    private static final int ORDERS = 3;
    private static final int GIVES = 4;
    private static final int PAYS = 5;
    private static final int LINKS = 6;

    private static final int EVENT_ROOM = 60;
    private static final int EVENT_NUMBERS = 4;
    private static final int UNIT_COUNT = 20;
    private static final int GOOD_COUNT = 6;
    private static final int PLACE_COUNT = 10;
    private static final int ORDER_COUNT = 10;
    private static final int OWNER_COUNT = 4;
    private static final int MOST_PIECES = 9;
    private static final int MOST_CENTS = 10000;
    private static final int MOST_SECONDS = 99;
    private static final int MOST_ORDERS_TRIED = 6;
    private static final int MOST_STOPS_TRIED = 4;

    private static final int ANY = -1;
    private static final int NONE = -1;
    private static final int NOT_TRIED = -1;
    private static final int TOO_MANY_STOPS = -2;
    private static final int SET_BITS = 32;

    /** Above every way and walk that there can be, and far from int's end when a few are added. */
    private static final int FAR = 1000000;

    /** Four numbers an event: kind, a, b, c. Only events in their ranges are written here, so they are safe indexes. */
    private final int[] row = new int[EVENT_ROOM * EVENT_NUMBERS];
    private int eventCount = 0;
    private int refusedCount = 0;

    private final House house = new House();
    private final Fillings fillings = new Fillings();
    private final Ways ways = new Ways();

    public PlainWarehouse() {
    }

    public int event(int kind, int a, int b, int c) throws IllegalArgumentException, UnsupportedOperationException {
        if (!isInRange(kind, a, b, c)) {
            throw new IllegalArgumentException("the kind or a number of the event is outside its range");
        }
        if (eventCount >= EVENT_ROOM) {
            throw new UnsupportedOperationException("there are sixty events");
        }
        replay(eventCount);
        if (!house.take(kind, a, b, c)) {
            refusedCount++;
            return 0;
        }
        keep(kind, a, b, c);
        return 1;
    }

    public int stock(int place, int good) throws IllegalArgumentException {
        if (place != ANY && !isPlace(place)) {
            throw new IllegalArgumentException("no such place");
        }
        if (good != ANY && !isGood(good)) {
            throw new IllegalArgumentException("no such good");
        }
        replay(eventCount);
        return house.unitsAt(place, good);
    }

    public int where(int unit, int events) throws NoSuchElementException, IllegalArgumentException {
        if (!hasSoMany(events)) {
            throw new NoSuchElementException("not so many events");
        }
        if (!isUnit(unit)) {
            throw new IllegalArgumentException("no such unit");
        }
        replay(events);
        return house.placeOf[unit];
    }

    public int order(int order, int what) throws NoSuchElementException, IllegalArgumentException {
        replay(eventCount);
        if (!house.isTold(order)) {
            throw new NoSuchElementException("the order was not told");
        }
        switch (what) {
            case 0:
                return house.isFull(order) ? 1 : 0;
            case 1:
                return house.got[order];
            case 2:
                return house.goodWanted[order];
            case 3:
                return house.freeUnits(house.goodWanted[order]);
            default:
                throw new IllegalArgumentException("an order tells 0 to 3");
        }
    }

    public int promise(int set) throws NoSuchElementException {
        replay(eventCount);
        if (!areAllTold(set)) {
            throw new NoSuchElementException("an order in the set was not told");
        }
        if (Integer.bitCount(set) > MOST_ORDERS_TRIED) {
            return NOT_TRIED;
        }
        return fillings.most(house, set);
    }

    public int way(int from, int to) throws IllegalArgumentException {
        if (!isPlace(from) || !isPlace(to)) {
            throw new IllegalArgumentException("no such place");
        }
        replay(eventCount);
        ways.measure(house);
        return orNone(ways.between(from, to));
    }

    public int walk(int order, int from) throws NoSuchElementException, IllegalArgumentException {
        replay(eventCount);
        if (!house.isTold(order)) {
            throw new NoSuchElementException("the order was not told");
        }
        if (!isPlace(from)) {
            throw new IllegalArgumentException("no such place");
        }
        int stops = house.placesOfUnitsGivenTo(order);
        if (Integer.bitCount(stops) > MOST_STOPS_TRIED) {
            return TOO_MANY_STOPS;
        }
        ways.measure(house);
        return orNone(ways.fewestThrough(from, stops));
    }

    public int money(int owner, int events) throws NoSuchElementException, IllegalArgumentException {
        if (!hasSoMany(events)) {
            throw new NoSuchElementException("not so many events");
        }
        if (!isOwner(owner)) {
            throw new IllegalArgumentException("no such owner");
        }
        replay(events);
        return house.cents[owner];
    }

    public int needs(int i) throws NoSuchElementException {
        if (!isEvent(i)) {
            throw new NoSuchElementException("no such event");
        }
        replay(i);
        int refused = 0;
        for (int later = i + 1; later < eventCount; later++) {
            if (!takeKept(later)) {
                refused++;
            }
        }
        return refused;
    }

    public int explained(int i) throws NoSuchElementException {
        if (!isEvent(i)) {
            throw new NoSuchElementException("no such event");
        }
        replay(i);
        for (int later = i + 1; later < eventCount; later++) {
            if (!takeKept(later)) {
                return later;
            }
        }
        return NONE;
    }

    public int told(int i, int what) throws NoSuchElementException, IllegalArgumentException {
        if (!isEvent(i)) {
            throw new NoSuchElementException("no such event");
        }
        if (!isWithin(what, 0, EVENT_NUMBERS - 1)) {
            throw new IllegalArgumentException("an event tells 0 to 3");
        }
        return row[i * EVENT_NUMBERS + what];
    }

    public void back() throws IllegalStateException {
        if (eventCount == 0) {
            throw new IllegalStateException("there is no event");
        }
        eventCount--;
    }

    public int count(int what) {
        replay(eventCount);
        switch (what) {
            case 0:
                return eventCount;
            case 1:
                return refusedCount;
            case 2:
                return house.unitsAt(ANY, ANY);
            case 3:
                return house.toldOrders();
            case 4:
                return house.fullOrders();
            case 5:
                return house.linkedPairs();
            default:
                return NONE;
        }
    }

    /** Writes behind the row's end; event() has looked at the room. */
    private void keep(int kind, int a, int b, int c) {
        int at = eventCount * EVENT_NUMBERS;
        row[at] = kind;
        row[at + 1] = a;
        row[at + 2] = b;
        row[at + 3] = c;
        eventCount++;
    }

    /** Puts the house to where it was behind so many events. */
    private void replay(int events) {
        house.empty();
        for (int i = 0; i < events; i++) {
            takeKept(i);
        }
    }

    private boolean takeKept(int i) {
        int at = i * EVENT_NUMBERS;
        return house.take(row[at], row[at + 1], row[at + 2], row[at + 3]);
    }

    /** All 32 bits are asked for: one above the last order is an order that was not told. */
    private boolean areAllTold(int set) {
        for (int order = 0; order < SET_BITS; order++) {
            if (isInSet(order, set) && !house.isTold(order)) {
                return false;
            }
        }
        return true;
    }

    private boolean isEvent(int i) {
        return isWithin(i, 0, eventCount - 1);
    }

    private boolean hasSoMany(int events) {
        return isWithin(events, 0, eventCount);
    }

    private static boolean isInRange(int kind, int a, int b, int c) {
        switch (kind) {
            case COMES:
                return isUnit(a) && isGood(b) && isPlace(c);
            case MOVES:
                return isUnit(a) && isPlace(b) && c == 0;
            case GOES:
                return isUnit(a) && b == 0 && c == 0;
            case ORDERS:
                return isOrder(a) && isWithin(b, 1, MOST_PIECES) && isGood(c);
            case GIVES:
                return isUnit(a) && isOrder(b) && c == 0;
            case PAYS:
                return isOwner(a) && b != 0 && isWithin(b, -MOST_CENTS, MOST_CENTS) && c == 0;
            case LINKS:
                return isPlace(a) && isPlace(b) && isWithin(c, 1, MOST_SECONDS);
            default:
                return false;
        }
    }

    private static boolean isUnit(int unit) {
        return isWithin(unit, 0, UNIT_COUNT - 1);
    }

    private static boolean isGood(int good) {
        return isWithin(good, 0, GOOD_COUNT - 1);
    }

    private static boolean isPlace(int place) {
        return isWithin(place, 0, PLACE_COUNT - 1);
    }

    private static boolean isOrder(int order) {
        return isWithin(order, 0, ORDER_COUNT - 1);
    }

    private static boolean isOwner(int owner) {
        return isWithin(owner, 0, OWNER_COUNT - 1);
    }

    private static boolean isWithin(int number, int least, int most) {
        return number >= least && number <= most;
    }

    private static boolean isInSet(int member, int set) {
        return (set >>> member & 1) == 1;
    }

    /** Where the pair of two places stands in a table of all pairs. */
    private static int pair(int from, int to) {
        return from * PLACE_COUNT + to;
    }

    private static int orNone(int seconds) {
        return seconds >= FAR ? NONE : seconds;
    }

    /** What a row of events has made of the house. */
    private static final class House {
        private static final int OUTSIDE = -1;
        private static final int TO_NO_ORDER = -1;

        private final int[] placeOf = new int[UNIT_COUNT];
        private final int[] goodOf = new int[UNIT_COUNT];
        private final int[] givenTo = new int[UNIT_COUNT];

        /** 0 pieces: the order was not told. */
        private final int[] wanted = new int[ORDER_COUNT];
        private final int[] goodWanted = new int[ORDER_COUNT];
        private final int[] got = new int[ORDER_COUNT];

        private final int[] cents = new int[OWNER_COUNT];

        /** Both directions of a link hold its seconds; 0: no link. */
        private final int[] link = new int[PLACE_COUNT * PLACE_COUNT];

        /** goodOf and goodWanted need no wiping: they are only read of what has come or was told since. */
        private void empty() {
            Arrays.fill(placeOf, OUTSIDE);
            Arrays.fill(givenTo, TO_NO_ORDER);
            Arrays.fill(wanted, 0);
            Arrays.fill(got, 0);
            Arrays.fill(cents, 0);
            Arrays.fill(link, 0);
        }

        /** Lets an event in its ranges happen if it is possible now; answers whether it was. */
        private boolean take(int kind, int a, int b, int c) {
            if (!isPossible(kind, a, b)) {
                return false;
            }
            happen(kind, a, b, c);
            return true;
        }

        private boolean isPossible(int kind, int a, int b) {
            switch (kind) {
                case COMES:
                    return !isInside(a);
                case MOVES:
                    return isInside(a);
                case GOES:
                    return isInside(a) && !isOpen(givenTo[a]);
                case ORDERS:
                    return !isTold(a);
                case GIVES:
                    return isFree(a) && isOpen(b) && goodOf[a] == goodWanted[b];
                case LINKS:
                    return a != b;
                default:
                    return true;
            }
        }

        private void happen(int kind, int a, int b, int c) {
            switch (kind) {
                case COMES:
                    come(a, b, c);
                    break;
                case MOVES:
                    placeOf[a] = b;
                    break;
                case GOES:
                    leave(a);
                    break;
                case ORDERS:
                    wanted[a] = b;
                    goodWanted[a] = c;
                    break;
                case GIVES:
                    givenTo[a] = b;
                    got[b]++;
                    break;
                case PAYS:
                    cents[a] += b;
                    break;
                case LINKS:
                    link[pair(a, b)] = c;
                    link[pair(b, a)] = c;
                    break;
                default:
                    break;
            }
        }

        private void come(int unit, int good, int place) {
            placeOf[unit] = place;
            goodOf[unit] = good;
        }

        /** Its order keeps counting it, but the unit that comes again under its number is given to none. */
        private void leave(int unit) {
            placeOf[unit] = OUTSIDE;
            givenTo[unit] = TO_NO_ORDER;
        }

        private boolean isInside(int unit) {
            return placeOf[unit] != OUTSIDE;
        }

        private boolean isFree(int unit) {
            return isInside(unit) && givenTo[unit] == TO_NO_ORDER;
        }

        /** Takes every number: the face is asked for orders with any, and TO_NO_ORDER is none. */
        private boolean isTold(int order) {
            return order >= 0 && order < ORDER_COUNT && wanted[order] > 0;
        }

        private boolean isOpen(int order) {
            return isTold(order) && got[order] < wanted[order];
        }

        private boolean isFull(int order) {
            return isTold(order) && got[order] >= wanted[order];
        }

        private int unitsAt(int place, int good) {
            int units = 0;
            for (int unit = 0; unit < UNIT_COUNT; unit++) {
                if (isInside(unit) && isAsked(placeOf[unit], place) && isAsked(goodOf[unit], good)) {
                    units++;
                }
            }
            return units;
        }

        private static boolean isAsked(int number, int asked) {
            return asked == ANY || asked == number;
        }

        private int freeUnits(int good) {
            int units = 0;
            for (int unit = 0; unit < UNIT_COUNT; unit++) {
                if (isFree(unit) && goodOf[unit] == good) {
                    units++;
                }
            }
            return units;
        }

        /** A set of places, as bits. */
        private int placesOfUnitsGivenTo(int order) {
            int places = 0;
            for (int unit = 0; unit < UNIT_COUNT; unit++) {
                if (isInside(unit) && givenTo[unit] == order) {
                    places |= 1 << placeOf[unit];
                }
            }
            return places;
        }

        private int toldOrders() {
            int orders = 0;
            for (int order = 0; order < ORDER_COUNT; order++) {
                if (isTold(order)) {
                    orders++;
                }
            }
            return orders;
        }

        private int fullOrders() {
            int orders = 0;
            for (int order = 0; order < ORDER_COUNT; order++) {
                if (isFull(order)) {
                    orders++;
                }
            }
            return orders;
        }

        /** A link told again is the same link, whichever of its places is told first. */
        private int linkedPairs() {
            int links = 0;
            for (int a = 0; a < PLACE_COUNT; a++) {
                for (int b = a + 1; b < PLACE_COUNT; b++) {
                    if (link[pair(a, b)] > 0) {
                        links++;
                    }
                }
            }
            return links;
        }
    }

    /** Which orders can be made full together, by trying all subsets. */
    private static final class Fillings {
        private final int[] lacking = new int[MOST_ORDERS_TRIED];
        private final int[] goods = new int[MOST_ORDERS_TRIED];
        private final int[] free = new int[GOOD_COUNT];
        private final int[] left = new int[GOOD_COUNT];
        private int size = 0;

        private int most(House house, int set) {
            countFree(house);
            chooseOpen(house, set);
            int most = 0;
            for (int subset = 0; subset < 1 << size; subset++) {
                if (Integer.bitCount(subset) > most && isEnoughFor(subset)) {
                    most = Integer.bitCount(subset);
                }
            }
            return most;
        }

        private void countFree(House house) {
            for (int good = 0; good < GOOD_COUNT; good++) {
                free[good] = house.freeUnits(good);
            }
        }

        private void chooseOpen(House house, int set) {
            size = 0;
            for (int order = 0; order < ORDER_COUNT && size < MOST_ORDERS_TRIED; order++) {
                if (isInSet(order, set) && house.isOpen(order)) {
                    lacking[size] = house.wanted[order] - house.got[order];
                    goods[size] = house.goodWanted[order];
                    size++;
                }
            }
        }

        private boolean isEnoughFor(int subset) {
            System.arraycopy(free, 0, left, 0, GOOD_COUNT);
            for (int i = 0; i < size; i++) {
                if (isInSet(i, subset)) {
                    left[goods[i]] -= lacking[i];
                    if (left[goods[i]] < 0) {
                        return false;
                    }
                }
            }
            return true;
        }
    }

    /** The shortest ways between all places, and walks over several of them. */
    private static final class Ways {
        private final int[] seconds = new int[PLACE_COUNT * PLACE_COUNT];

        private void measure(House house) {
            layLinks(house);
            for (int via = 0; via < PLACE_COUNT; via++) {
                for (int from = 0; from < PLACE_COUNT; from++) {
                    shortenVia(via, from);
                }
            }
        }

        private void layLinks(House house) {
            for (int from = 0; from < PLACE_COUNT; from++) {
                for (int to = 0; to < PLACE_COUNT; to++) {
                    int link = house.link[pair(from, to)];
                    seconds[pair(from, to)] = link > 0 ? link : FAR;
                }
                seconds[pair(from, from)] = 0;
            }
        }

        private void shortenVia(int via, int from) {
            int first = seconds[pair(from, via)];
            if (first >= FAR) {
                return;
            }
            for (int to = 0; to < PLACE_COUNT; to++) {
                int longer = first + seconds[pair(via, to)];
                seconds[pair(from, to)] = Math.min(seconds[pair(from, to)], longer);
            }
        }

        private int between(int from, int to) {
            return seconds[pair(from, to)];
        }

        /** FAR if a stop can't be reached; stops is a set of places, as bits. */
        private int fewestThrough(int from, int stops) {
            return fewest(seconds, from, stops, MOST_STOPS_TRIED);
        }

        /** Tries each stop as the next one; depth is how many stops more it may go to. */
        private static int fewest(int[] seconds, int from, int stops, int depth) {
            if (stops == 0) {
                return 0;
            }
            if (depth <= 0) {
                return FAR;
            }
            int best = FAR;
            for (int stop = 0; stop < PLACE_COUNT; stop++) {
                if (isInSet(stop, stops)) {
                    int rest = fewest(seconds, stop, stops & ~(1 << stop), depth - 1);
                    best = Math.min(best, seconds[pair(from, stop)] + rest);
                }
            }
            return best;
        }
    }
}
