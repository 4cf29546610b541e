import java.util.Arrays;
import java.util.NoSuchElementException;

/** A keeper of runway slots. Words in capitals are those of the document. */
public final class SlotKeeper {
    public static final int NONE = -1;

    private static final int MOST_CRAFT = 10;
    private static final int SORTS = 8;
    private static final int MOST_KIND = 3;
    private static final int MOST_SPANS = 4;
    private static final int MOST_DONE = 20;
    private static final int MOST_ACTS = 16;
    private static final int MOST_READY = 999;
    private static final int LAST_TIME = 1999;
    private static final int MOST_WEIGHT = 20;
    private static final int MOST_GAP = 99;
    private static final int MOST_SHIFT = 3;
    private static final int MOST_FREEZE = 99;
    private static final int MOST_DELAY = 99;
    private static final int MOST_TAPE = 500;
    private static final int FED = 20;
    private static final int MOST_DAY = 40;

    private static final int BY_WAITS = 0;
    private static final int BY_END = 1;
    private static final int BY_LONGEST = 2;

    private static final int NO_LOSS = -1000000;
    /** Dearer than any ORDER. */
    private static final int HOPELESS = 2147483647;

    private final Runway live;
    /** Where "were it so" is tried out, so that no question can disturb the live BOARD. */
    private final Runway paper;
    private final Day dayOnPaper;
    private final Reader reader;
    private final Acts acts;
    private final Saying saying;
    private final byte[] tape;
    private int tapeLength;
    private int faultPlace;
    private final int[] toldOrder;

    public SlotKeeper() {
        live = new Runway();
        paper = new Runway();
        dayOnPaper = new Day(paper);
        tape = new byte[MOST_TAPE];
        reader = new Reader(tape, paper.board);
        acts = new Acts();
        saying = new Saying();
        toldOrder = new int[MOST_CRAFT];
        faultPlace = NONE;
    }

    public int feed(int a, int b, int c, int d, int e) {
        if (tapeLength + FED > MOST_TAPE) {
            return NONE;
        }
        feedNumber(a);
        feedNumber(b);
        feedNumber(c);
        feedNumber(d);
        feedNumber(e);
        return tapeLength;
    }

    private void feedNumber(int number) {
        for (int shift = 24; shift >= 0 && tapeLength < MOST_TAPE; shift -= 8) {
            tape[tapeLength] = (byte) (number >> shift);
            tapeLength++;
        }
    }

    public int board(int n) throws IllegalArgumentException {
        checkArgument(n, 0, tapeLength);
        tapeLength = 0;
        int found = reader.read(n);
        if (found != Reader.NO_FAULT) {
            faultPlace = reader.place;
            return found;
        }
        faultPlace = NONE;
        live.board.copyFrom(paper.board);
        acts.forget();
        return Reader.NO_FAULT;
    }

    public int fault() {
        return faultPlace;
    }

    public int count(int what) throws NoSuchElementException {
        checkElement(what, 17);
        Board board = live.board;
        switch (what) {
            case 0: return board.craftCount;
            case 1: return board.now;
            case 2: return board.shift;
            case 3: return board.freeze;
            case 4: return live.frozen();
            case 5: return board.doneCount;
            case 6: return board.spanCount;
            case 7: return acts.kept;
            case 8: return tapeLength;
            case 9: return bit(live.layPlan().holds());
            case 10: return bit(live.isAllowed(board.order, live.frozen()));
            case 11: return live.layPlan().cost(BY_WAITS);
            case 12: return live.layPlan().cost(BY_END);
            case 13: return live.layPlan().cost(BY_LONGEST);
            case 14: return board.crookedRows();
            case 15: return board.firstCrooked();
            default: return board.turnedCouples();
        }
    }

    public int craft(int craft, int what) throws NoSuchElementException {
        checkElement(craft, live.board.craftCount);
        checkElement(what, 14);
        Board board = live.board;
        switch (what) {
            case 0: return board.sort[craft];
            case 1: return board.ready[craft];
            case 2: return board.latest[craft];
            case 3: return board.weight[craft];
            case 4: return board.rankOf(craft);
            case 5: return board.placeOf(craft);
            case 6: return live.slotOf(craft);
            case 7: return live.slotOf(craft) - board.ready[craft];
            case 8: return board.placeOf(craft) - board.rankOf(craft);
            case 9: return bit(board.placeOf(craft) < live.frozen());
            case 10: return Math.max(0, live.slotOf(craft) - board.latest[craft]);
            case 11: return board.hurried[craft];
            case 12: return live.heldBy(craft);
            default: return copyToPaper().useUpSlack(craft);
        }
    }

    public int planned(int place) throws NoSuchElementException {
        checkElement(place, live.board.craftCount);
        return live.board.order[place];
    }

    public int gap(int ahead, int behind) throws NoSuchElementException {
        checkElement(ahead, SORTS);
        checkElement(behind, SORTS);
        return live.board.gaps[ahead * SORTS + behind];
    }

    public int closed(int i, boolean end) throws NoSuchElementException {
        checkElement(i, live.board.spanCount);
        return end ? live.board.spanTo[i] : live.board.spanFrom[i];
    }

    public int come(int sort, int ready, int latest, int weight) throws IllegalArgumentException {
        checkArgument(sort, 0, SORTS - 1);
        checkArgument(ready, 0, MOST_READY);
        checkArgument(latest, ready, LAST_TIME);
        checkArgument(weight, 0, MOST_WEIGHT);
        if (live.board.isFull()) {
            return NONE;
        }
        acts.keep(live.board);
        live.board.addCraft(sort, ready, latest, weight);
        return live.board.craftCount - 1;
    }

    public int go(int craft) throws NoSuchElementException {
        checkElement(craft, live.board.craftCount);
        acts.keep(live.board);
        live.board.removeCraft(craft);
        return live.board.craftCount;
    }

    public int change(int craft, int what, int v)
            throws NoSuchElementException, IllegalArgumentException {
        checkElement(craft, live.board.craftCount);
        checkElement(what, 3);
        Board board = live.board;
        switch (what) {
            case 0: return changeReady(craft, v);
            case 1:
                checkArgument(v, board.ready[craft], LAST_TIME);
                return changeCell(board.latest, craft, v);
            default:
                checkArgument(v, 0, MOST_WEIGHT);
                return changeCell(board.weight, craft, v);
        }
    }

    private int changeReady(int craft, int v) {
        checkArgument(v, 0, MOST_READY);
        Board board = live.board;
        int was = changeCell(board.ready, craft, v);
        board.latest[craft] = Math.max(board.latest[craft], v);
        return was;
    }

    /** One cell of the live BOARD becomes another one, which is an ACT. */
    private int changeCell(int[] cells, int at, int v) {
        acts.keep(live.board);
        int was = cells[at];
        cells[at] = v;
        return was;
    }

    public int part(int ahead, int behind, int v)
            throws NoSuchElementException, IllegalArgumentException {
        checkElement(ahead, SORTS);
        checkElement(behind, SORTS);
        checkArgument(v, 0, MOST_GAP);
        return changeCell(live.board.gaps, ahead * SORTS + behind, v);
    }

    public int rule(boolean freeze, int v) throws IllegalArgumentException {
        checkArgument(v, 0, freeze ? MOST_FREEZE : MOST_SHIFT);
        Board board = live.board;
        acts.keep(board);
        int was = freeze ? board.freeze : board.shift;
        if (freeze) {
            board.freeze = v;
        } else {
            board.shift = v;
        }
        return was;
    }

    public int hurry(int craft, int hurried)
            throws NoSuchElementException, IllegalArgumentException {
        checkElement(craft, live.board.craftCount);
        checkArgument(hurried, 0, 1);
        return changeCell(live.board.hurried, craft, hurried);
    }

    public int close(int from, int to) throws IllegalArgumentException {
        checkArgument(from, 0, LAST_TIME - 1);
        checkArgument(to, from + 1, LAST_TIME);
        if (live.board.spanCount >= MOST_SPANS) {
            return NONE;
        }
        acts.keep(live.board);
        live.board.addSpan(from, to);
        return live.board.spanCount;
    }

    public int open(int i) throws NoSuchElementException {
        checkElement(i, live.board.spanCount);
        acts.keep(live.board);
        live.board.removeSpan(i);
        return live.board.spanCount;
    }

    public int loss(int craft, int d) throws NoSuchElementException, IllegalArgumentException {
        checkElement(craft, live.board.craftCount);
        checkArgument(d, 1, MOST_DELAY);
        if (live.board.leaves(craft)) {
            return NO_LOSS;
        }
        int asItIs = live.bestCost(BY_WAITS);
        if (asItIs == NONE) {
            return NO_LOSS;
        }
        copyToPaper().sendAround(craft, d);
        int then = paper.bestCost(BY_WAITS);
        return then == NONE ? NO_LOSS : then - asItIs;
    }

    public int day(int seed, int n, int way, int what)
            throws IllegalArgumentException, NoSuchElementException {
        checkArgument(n, 1, MOST_DAY);
        checkArgument(way, 0, 3);
        checkElement(what, 3);
        copyToPaper();
        dayOnPaper.run(seed, n, way);
        switch (what) {
            case 0: return dayOnPaper.waitsTimesWeights;
            case 1: return dayOnPaper.latestSlot;
            default: return dayOnPaper.longestWait;
        }
    }

    public int best(int cost) throws IllegalArgumentException {
        checkArgument(cost, BY_WAITS, BY_LONGEST);
        return live.bestCost(cost);
    }

    public int bestAt(int cost, int place) throws IllegalArgumentException, NoSuchElementException {
        checkArgument(cost, BY_WAITS, BY_LONGEST);
        checkElement(place, live.board.craftCount);
        return live.bestCost(cost) == NONE ? NONE : live.search.found[place];
    }

    public int ways(boolean holding) {
        return live.search.countOrders(live.frozen(), holding);
    }

    public int worth(int k) throws IllegalArgumentException {
        checkArgument(k, 0, MOST_SHIFT);
        copyToPaper().board.shift = k;
        return paper.bestCost(BY_WAITS);
    }

    public int plan(int cost) throws IllegalArgumentException {
        checkArgument(cost, BY_WAITS, BY_LONGEST);
        int least = live.bestCost(cost);
        if (least != NONE) {
            acts.keep(live.board);
            live.board.setOrder(live.search.found);
        }
        return least;
    }

    public int byRanks() {
        acts.keep(live.board);
        live.orderByRanks();
        return live.layPlan().cost(BY_WAITS);
    }

    public int told(long order, int what) throws IllegalArgumentException, NoSuchElementException {
        checkOrder(order);
        checkElement(what, 4);
        switch (what) {
            case 0: return live.table.lay(toldOrder).cost(BY_WAITS);
            case 1: return live.table.lay(toldOrder).cost(BY_END);
            case 2: return bit(live.table.lay(toldOrder).holds());
            default: return bit(live.isAllowed(toldOrder, live.frozen()));
        }
    }

    public boolean tell(long order) throws IllegalArgumentException {
        checkOrder(order);
        if (!live.board.beginsAlike(toldOrder, live.frozen())) {
            return false;
        }
        acts.keep(live.board);
        live.board.setOrder(toldOrder);
        return true;
    }

    /** Reads the figures into toldOrder, from the last one on: a leading 0 needs no figure then. */
    private void checkOrder(long order) {
        int craftCount = live.board.craftCount;
        long rest = order;
        int seen = 0;
        for (int place = craftCount - 1; place >= 0; place--) {
            int figure = (int) (rest % 10);
            if (figure < 0 || figure >= craftCount || isIn(seen, figure)) {
                throw new IllegalArgumentException();
            }
            seen |= 1 << figure;
            toldOrder[place] = figure;
            rest /= 10;
        }
        if (rest != 0) {
            throw new IllegalArgumentException();
        }
    }

    public int putIn(int craft) throws NoSuchElementException {
        checkElement(craft, live.board.craftCount);
        int place = live.placeToPutIn(craft);
        if (place != NONE) {
            acts.keep(live.board);
            live.board.moveTo(craft, place);
        }
        return place;
    }

    public int trade() {
        int place = live.placeToTrade();
        if (place != NONE) {
            acts.keep(live.board);
            live.board.swapWithNext(place);
        }
        return place;
    }

    public int around(int craft, int d) throws NoSuchElementException, IllegalArgumentException {
        checkElement(craft, live.board.craftCount);
        checkArgument(d, 1, MOST_DELAY);
        if (live.board.leaves(craft)) {
            return NONE;
        }
        acts.keep(live.board);
        live.sendAround(craft, d);
        return live.board.ready[craft];
    }

    public int goOn(int t) throws IllegalArgumentException {
        checkArgument(t, live.board.now, LAST_TIME);
        acts.keep(live.board);
        return live.passTime(t);
    }

    public int done(int i, int what) throws NoSuchElementException {
        Board board = live.board;
        checkElement(i, board.doneCount);
        checkElement(what, 3);
        int at = board.doneCount - 1 - i;
        switch (what) {
            case 0: return board.doneSort[at];
            case 1: return board.doneSlot[at];
            default: return board.doneWait[at];
        }
    }

    public int hole(int sort, int from) throws NoSuchElementException, IllegalArgumentException {
        checkElement(sort, SORTS);
        checkArgument(from, 0, LAST_TIME);
        return live.holeFor(sort, from);
    }

    public int sorted(int sort, int what) throws NoSuchElementException {
        if (sort != NONE) {
            checkElement(sort, SORTS);
        }
        checkElement(what, 3);
        switch (what) {
            case 0: return live.board.countOf(sort);
            case 1: return live.waitsOf(sort);
            default: return live.longestWaitOf(sort);
        }
    }

    public int undo() {
        return acts.takeBack(live.board) ? acts.kept : NONE;
    }

    public int say() {
        saying.tellPlan(live.board, live.layPlan());
        return saying.length;
    }

    public int said(int i) {
        return i >= 0 && i < saying.length ? saying.text[i] : NONE;
    }

    private Runway copyToPaper() {
        paper.board.copyFrom(live.board);
        return paper;
    }

    private static void checkElement(int index, int count) {
        if (index < 0 || index >= count) {
            throw new NoSuchElementException();
        }
    }

    private static void checkArgument(int v, int least, int most) {
        if (v < least || v > most) {
            throw new IllegalArgumentException();
        }
    }

    private static int bit(boolean is) {
        return is ? 1 : 0;
    }

    private static boolean isIn(int set, int element) {
        return (set >> element & 1) != 0;
    }

    /** All that an ACT can change and nothing else, so that a copy of it is all that undoing takes. */
    private static final class Board {
        int craftCount;
        final int[] sort = new int[MOST_CRAFT];
        final int[] ready = new int[MOST_CRAFT];
        final int[] latest = new int[MOST_CRAFT];
        final int[] weight = new int[MOST_CRAFT];
        final int[] hurried = new int[MOST_CRAFT];
        /** THE PLAN. */
        final int[] order = new int[MOST_CRAFT];
        final int[] gaps = new int[SORTS * SORTS];
        int spanCount;
        final int[] spanFrom = new int[MOST_SPANS];
        final int[] spanTo = new int[MOST_SPANS];
        int shift;
        int freeze;
        int now;
        /** Those DONE stand with the latest one last. */
        int doneCount;
        final int[] doneSort = new int[MOST_DONE];
        final int[] doneSlot = new int[MOST_DONE];
        final int[] doneWait = new int[MOST_DONE];

        Board() {
            makeNew();
        }

        void makeNew() {
            clearAway();
            spanCount = 0;
            shift = 2;
            freeze = 10;
            Arrays.fill(gaps, 3);
        }

        /** Nobody is here, nobody was: what rules the BOARD stays. */
        void clearAway() {
            craftCount = 0;
            doneCount = 0;
            now = 0;
        }

        void copyFrom(Board other) {
            craftCount = other.craftCount;
            copyRow(other.sort, sort);
            copyRow(other.ready, ready);
            copyRow(other.latest, latest);
            copyRow(other.weight, weight);
            copyRow(other.hurried, hurried);
            copyRow(other.order, order);
            copyRow(other.gaps, gaps);
            spanCount = other.spanCount;
            copyRow(other.spanFrom, spanFrom);
            copyRow(other.spanTo, spanTo);
            shift = other.shift;
            freeze = other.freeze;
            now = other.now;
            doneCount = other.doneCount;
            copyRow(other.doneSort, doneSort);
            copyRow(other.doneSlot, doneSlot);
            copyRow(other.doneWait, doneWait);
        }

        private static void copyRow(int[] from, int[] to) {
            System.arraycopy(from, 0, to, 0, Math.min(from.length, to.length));
        }

        /** Takes one cell out of a row of so many. */
        private static void takeOut(int[] row, int at, int count) {
            if (at >= 0 && at < count && count <= row.length) {
                System.arraycopy(row, at + 1, row, at, count - 1 - at);
            }
        }

        boolean isFull() {
            return craftCount >= MOST_CRAFT;
        }

        boolean leaves(int craft) {
            return sort[craft] % 2 == 1;
        }

        int gapOf(int ahead, int behind) {
            return gaps[ahead * SORTS + behind];
        }

        void addCraft(int itsSort, int itsReady, int itsLatest, int itsWeight) {
            if (isFull()) {
                return;
            }
            sort[craftCount] = itsSort;
            ready[craftCount] = itsReady;
            latest[craftCount] = itsLatest;
            weight[craftCount] = itsWeight;
            hurried[craftCount] = 0;
            order[craftCount] = craftCount;
            craftCount++;
        }

        void removeCraft(int craft) {
            takeOut(order, placeOf(craft), craftCount);
            takeOut(sort, craft, craftCount);
            takeOut(ready, craft, craftCount);
            takeOut(latest, craft, craftCount);
            takeOut(weight, craft, craftCount);
            takeOut(hurried, craft, craftCount);
            craftCount--;
            for (int place = 0; place < craftCount; place++) {
                if (order[place] > craft) {
                    order[place]--;
                }
            }
        }

        /** The first one of THE PLAN is DONE. */
        void finishFirst(int slot) {
            if (doneCount >= MOST_DONE) {
                takeOut(doneSort, 0, doneCount);
                takeOut(doneSlot, 0, doneCount);
                takeOut(doneWait, 0, doneCount);
                doneCount--;
            }
            int craft = order[0];
            doneSort[doneCount] = sort[craft];
            doneSlot[doneCount] = slot;
            doneWait[doneCount] = slot - ready[craft];
            doneCount++;
            removeCraft(craft);
        }

        void addSpan(int from, int to) {
            if (spanCount >= MOST_SPANS) {
                return;
            }
            spanFrom[spanCount] = from;
            spanTo[spanCount] = to;
            spanCount++;
        }

        void removeSpan(int i) {
            takeOut(spanFrom, i, spanCount);
            takeOut(spanTo, i, spanCount);
            spanCount--;
        }

        boolean isClosed(int time) {
            return openFrom(time) != time;
        }

        /** As many rounds as there are spans: a later span of the row may lead into an earlier one. */
        int openFrom(int time) {
            int open = time;
            for (int round = 0; round < spanCount; round++) {
                for (int i = 0; i < spanCount; i++) {
                    if (spanFrom[i] <= open && open < spanTo[i]) {
                        open = spanTo[i];
                    }
                }
            }
            return open;
        }

        int placeOf(int craft) {
            for (int place = 0; place < craftCount; place++) {
                if (order[place] == craft) {
                    return place;
                }
            }
            return 0;
        }

        int rankOf(int craft) {
            int rank = 0;
            for (int other = 0; other < craftCount; other++) {
                if (isAhead(other, craft)) {
                    rank++;
                }
            }
            return rank;
        }

        /** By RANK. */
        boolean isAhead(int one, int other) {
            if (hurried[one] != hurried[other]) {
                return hurried[one] == 1;
            }
            if (ready[one] != ready[other]) {
                return ready[one] < ready[other];
            }
            return one < other;
        }

        int countOf(int ofSort) {
            int count = 0;
            for (int craft = 0; craft < craftCount; craft++) {
                if (isOf(craft, ofSort)) {
                    count++;
                }
            }
            return count;
        }

        boolean isOf(int craft, int ofSort) {
            return ofSort == NONE || sort[craft] == ofSort;
        }

        int turnedCouples() {
            int couples = 0;
            for (int place = 1; place < craftCount; place++) {
                for (int before = 0; before < place; before++) {
                    if (isAhead(order[place], order[before])) {
                        couples++;
                    }
                }
            }
            return couples;
        }

        private boolean isCrooked(int row) {
            int x = row / (SORTS * SORTS);
            int y = row / SORTS % SORTS;
            int z = row % SORTS;
            return gapOf(x, z) > gapOf(x, y) + gapOf(y, z);
        }

        int crookedRows() {
            int count = 0;
            for (int row = 0; row < SORTS * SORTS * SORTS; row++) {
                if (isCrooked(row)) {
                    count++;
                }
            }
            return count;
        }

        int firstCrooked() {
            for (int row = 0; row < SORTS * SORTS * SORTS; row++) {
                if (isCrooked(row)) {
                    return row;
                }
            }
            return NONE;
        }

        void setOrder(int[] another) {
            copyRow(another, order);
        }

        boolean beginsAlike(int[] another, int length) {
            for (int place = 0; place < length; place++) {
                if (another[place] != order[place]) {
                    return false;
                }
            }
            return true;
        }

        /** The others stay in their order. */
        void moveTo(int craft, int place) {
            int at = placeOf(craft);
            for (; at < place; at++) {
                swapWithNext(at);
            }
            for (; at > place; at--) {
                swapWithNext(at - 1);
            }
        }

        void swapWithNext(int place) {
            if (place < 0 || place + 1 >= craftCount) {
                return;
            }
            int craft = order[place];
            order[place] = order[place + 1];
            order[place + 1] = craft;
        }
    }

    /** SLOTS along an ORDER, laid place by place: going back to a place costs nothing. */
    private static final class Timetable {
        private final Board board;
        final int[] craftAt = new int[MOST_CRAFT];
        final int[] slotAt = new int[MOST_CRAFT];
        /** For each place the least time that those ahead leave to each SORT: so none is asked twice. */
        private final int[] leastTimes = new int[(MOST_CRAFT + 1) * SORTS];

        Timetable(Board board) {
            this.board = board;
        }

        Timetable lay(int[] order) {
            begin();
            for (int place = 0; place < board.craftCount; place++) {
                put(place, order[place]);
            }
            return this;
        }

        void begin() {
            for (int behind = 0; behind < SORTS; behind++) {
                int least = board.now;
                for (int i = 0; i < board.doneCount; i++) {
                    least = Math.max(least, board.doneSlot[i] + board.gapOf(board.doneSort[i], behind));
                }
                leastTimes[behind] = least;
            }
        }

        int put(int place, int craft) {
            int slot = board.openFrom(soonest(place, craft));
            craftAt[place] = craft;
            slotAt[place] = slot;
            int row = place * SORTS;
            int gapRow = board.sort[craft] * SORTS;
            for (int behind = 0; behind < SORTS; behind++) {
                int gapped = slot + board.gaps[gapRow + behind];
                int least = leastTimes[row + behind];
                leastTimes[row + SORTS + behind] = gapped > least ? gapped : least;
            }
            return slot;
        }

        /** CLOSED spans are not asked here: it can only be later. */
        int soonest(int place, int craft) {
            int least = leastTimes[place * SORTS + board.sort[craft]];
            int ready = board.ready[craft];
            return ready > least ? ready : least;
        }

        /** How many at the front have SLOTS no later than that. */
        int dueBy(int time) {
            int due = 0;
            while (due < board.craftCount && slotAt[due] <= time) {
                due++;
            }
            return due;
        }

        boolean holds() {
            for (int place = 0; place < board.craftCount; place++) {
                if (isLate(place)) {
                    return false;
                }
            }
            return true;
        }

        boolean isLate(int place) {
            return slotAt[place] > board.latest[craftAt[place]];
        }

        int waitAt(int place) {
            return slotAt[place] - board.ready[craftAt[place]];
        }

        int cost(int by) {
            int all = 0;
            for (int place = 0; place < board.craftCount; place++) {
                all = costWith(all, by, craftAt[place], slotAt[place]);
            }
            return all;
        }

        int costWith(int ahead, int by, int craft, int slot) {
            int wait = slot - board.ready[craft];
            if (by == BY_WAITS) {
                return ahead + wait * board.weight[craft];
            }
            int own = by == BY_END ? slot : wait;
            return own > ahead ? own : ahead;
        }
    }

    /** Goes through all ORDERS that are ALLOWED, by numbers of CRAFT along them. */
    private static final class Search {
        private final Board board;
        private final Timetable table;
        private final int[] rank = new int[MOST_CRAFT];
        private final int[] craftOfRank = new int[MOST_CRAFT];
        /** BEST, if the latest search had one. */
        final int[] found = new int[MOST_CRAFT];
        private int by;
        private int leastCost;
        private boolean holding;

        Search(Board board) {
            this.board = board;
            this.table = new Timetable(board);
        }

        int findBest(int costBy, int frozen) {
            by = costBy;
            leastCost = HOPELESS;
            begin();
            int used = 0;
            int cost = 0;
            for (int place = 0; place < frozen; place++) {
                int craft = board.order[place];
                int slot = table.put(place, craft);
                if (slot > board.latest[craft]) {
                    return NONE;
                }
                cost = table.costWith(cost, by, craft, slot);
                used |= 1 << craft;
            }
            if (!isAnyOverdue(frozen, used)) {
                goDeeper(frozen, used, cost);
            }
            return leastCost == HOPELESS ? NONE : leastCost;
        }

        private void begin() {
            for (int craft = 0; craft < board.craftCount; craft++) {
                rank[craft] = board.rankOf(craft);
                craftOfRank[rank[craft]] = craft;
            }
            table.begin();
        }

        /** An ORDER as dear as one found before comes behind it by numbers: it need not be looked at. */
        private void goDeeper(int place, int used, int cost) {
            if (atLeast(place, used, cost) >= leastCost) {
                return;
            }
            if (place >= board.craftCount || place >= MOST_CRAFT) {
                leastCost = cost;
                System.arraycopy(table.craftAt, 0, found, 0, MOST_CRAFT);
                return;
            }
            int pressed = pressedAt(place, used);
            for (int craft = 0; craft < board.craftCount; craft++) {
                if (isIn(used, craft) || !isNear(craft, place, pressed)) {
                    continue;
                }
                int slot = table.put(place, craft);
                if (slot <= board.latest[craft]) {
                    goDeeper(place + 1, used | 1 << craft, table.costWith(cost, by, craft, slot));
                }
            }
        }

        /** What all ORDERS that go on from here cost at least, as each one left is held by those ahead. */
        private int atLeast(int place, int used, int cost) {
            int least = cost;
            for (int craft = 0; craft < board.craftCount; craft++) {
                if (isIn(used, craft)) {
                    continue;
                }
                int soonest = table.soonest(place, craft);
                if (soonest > board.latest[craft]) {
                    return HOPELESS;
                }
                least = table.costWith(least, by, craft, soonest);
            }
            return least;
        }

        /** Where one is pressed, no other one counts as near. */
        private boolean isNear(int craft, int place, int pressed) {
            if (pressed != NONE) {
                return craft == pressed;
            }
            int away = place - rank[craft];
            return away <= board.shift && -away <= board.shift;
        }

        /** FROZEN ones may have kept another one from all places near its RANK. */
        private boolean isAnyOverdue(int place, int used) {
            for (int craft = 0; craft < board.craftCount; craft++) {
                if (!isIn(used, craft) && place - rank[craft] > board.shift) {
                    return true;
                }
            }
            return false;
        }

        /** The one for which this is the last place near its RANK: who goes on without it goes in vain. */
        private int pressedAt(int place, int used) {
            int itsRank = place - board.shift;
            if (itsRank < 0 || itsRank >= board.craftCount || isIn(used, craftOfRank[itsRank])) {
                return NONE;
            }
            return craftOfRank[itsRank];
        }

        int countOrders(int frozen, boolean onlyHolding) {
            holding = onlyHolding;
            begin();
            int used = 0;
            for (int place = 0; place < frozen; place++) {
                int craft = board.order[place];
                if (!mayStand(place, craft)) {
                    return 0;
                }
                used |= 1 << craft;
            }
            return isAnyOverdue(frozen, used) ? 0 : countDeeper(frozen, used);
        }

        private boolean mayStand(int place, int craft) {
            return !holding || table.put(place, craft) <= board.latest[craft];
        }

        private int countDeeper(int place, int used) {
            if (place >= board.craftCount || place >= MOST_CRAFT) {
                return 1;
            }
            int pressed = pressedAt(place, used);
            int orders = 0;
            for (int craft = 0; craft < board.craftCount; craft++) {
                if (!isIn(used, craft) && isNear(craft, place, pressed) && mayStand(place, craft)) {
                    orders += countDeeper(place + 1, used | 1 << craft);
                }
            }
            return orders;
        }
    }

    /** A BOARD and what can be asked and done there by SLOTS: the live one, and one on paper. */
    private static final class Runway {
        private static final int HELD_BY_TIME = -2;
        private static final int HELD_BY_SPAN = -3;
        private static final int HELD_BY_DONE = -4;

        final Board board;
        final Search search;
        final Timetable table;
        private final int[] tried = new int[MOST_CRAFT];

        Runway() {
            board = new Board();
            search = new Search(board);
            table = new Timetable(board);
        }

        Timetable layPlan() {
            return table.lay(board.order);
        }

        int slotOf(int craft) {
            return layPlan().slotAt[board.placeOf(craft)];
        }

        int frozen() {
            return table.lay(board.order).dueBy(board.now + board.freeze);
        }

        int bestCost(int by) {
            return search.findBest(by, frozen());
        }

        boolean isAllowed(int[] order, int frozen) {
            if (!board.beginsAlike(order, frozen)) {
                return false;
            }
            for (int place = frozen; place < board.craftCount; place++) {
                if (Math.abs(place - board.rankOf(order[place])) > board.shift) {
                    return false;
                }
            }
            return true;
        }

        void orderByRanks() {
            int frozen = frozen();
            for (int place = board.craftCount - 1; place > frozen; place--) {
                board.moveTo(lastByRank(frozen, place), place);
            }
        }

        /** Of those from one place of THE PLAN to another. */
        private int lastByRank(int from, int to) {
            int last = board.order[from];
            for (int place = from + 1; place <= to; place++) {
                if (board.isAhead(last, board.order[place])) {
                    last = board.order[place];
                }
            }
            return last;
        }

        int placeToPutIn(int craft) {
            int frozen = frozen();
            int at = board.placeOf(craft);
            if (at < frozen) {
                return NONE;
            }
            int bestPlace = NONE;
            int least = HOPELESS;
            for (int place = frozen; place < board.craftCount; place++) {
                tryPlace(at, place);
                int cost = table.lay(tried).cost(BY_WAITS);
                if (table.holds() && cost < least) {
                    least = cost;
                    bestPlace = place;
                }
            }
            return bestPlace;
        }

        /** Tried is THE PLAN with the one at a place put at another one. */
        private void tryPlace(int at, int place) {
            int from = 0;
            for (int to = 0; to < board.craftCount; to++) {
                if (from == at) {
                    from++;
                }
                if (to == place) {
                    tried[to] = board.order[at];
                } else if (from < board.craftCount) {
                    tried[to] = board.order[from];
                    from++;
                }
            }
        }

        int placeToTrade() {
            int frozen = frozen();
            int least = table.cost(BY_WAITS);
            int bestPlace = NONE;
            for (int place = frozen; place + 1 < board.craftCount; place++) {
                tryPlace(place, place + 1);
                int cost = table.lay(tried).cost(BY_WAITS);
                if (cost < least && table.holds() && isAllowed(tried, frozen)) {
                    least = cost;
                    bestPlace = place;
                }
            }
            return bestPlace;
        }

        void sendAround(int craft, int d) {
            int ready = Math.min(slotOf(craft) + d, MOST_READY);
            board.ready[craft] = ready;
            board.latest[craft] = Math.min(Math.max(board.latest[craft] + d, ready), LAST_TIME);
            board.moveTo(craft, board.craftCount - 1);
        }

        int passTime(int time) {
            int due = layPlan().dueBy(time);
            for (int i = 0; i < due; i++) {
                board.finishFirst(table.slotAt[i]);
            }
            board.now = time;
            return due;
        }

        int heldBy(int craft) {
            layPlan();
            int place = board.placeOf(craft);
            int slot = table.slotAt[place];
            int sort = board.sort[craft];
            if (slot == board.ready[craft] || slot == board.now) {
                return HELD_BY_TIME;
            }
            if (board.isClosed(slot - 1)) {
                return HELD_BY_SPAN;
            }
            for (int i = 0; i < board.doneCount; i++) {
                if (board.doneSlot[i] + board.gapOf(board.doneSort[i], sort) == slot) {
                    return HELD_BY_DONE;
                }
            }
            for (int ahead = place - 1; ahead >= 0; ahead--) {
                int other = board.order[ahead];
                if (table.slotAt[ahead] + board.gapOf(board.sort[other], sort) == slot) {
                    return other;
                }
            }
            return NONE;
        }

        /** SLACK of a CRAFT; READY is changed for it, so this is for paper alone. */
        int useUpSlack(int craft) {
            int slot = slotOf(craft);
            if (!table.holds()) {
                return NONE;
            }
            for (int d = MOST_DELAY; d > 0; d--) {
                board.ready[craft] = slot + d;
                if (layPlan().holds()) {
                    return d;
                }
            }
            return 0;
        }

        int holeFor(int sort, int from) {
            layPlan();
            int time = Math.max(from, board.now);
            for (int step = 0; step <= LAST_TIME && time <= LAST_TIME; step++) {
                int later = pushed(sort, time);
                if (later == time) {
                    return time;
                }
                time = later;
            }
            return NONE;
        }

        /** The time itself, if it is a HOLE; else a later one, with no HOLE between them. */
        private int pushed(int sort, int time) {
            int later = board.openFrom(time);
            for (int i = 0; i < board.doneCount; i++) {
                later = pushedBy(board.doneSort[i], board.doneSlot[i], sort, later);
            }
            for (int place = 0; place < board.craftCount; place++) {
                later = pushedBy(board.sort[board.order[place]], table.slotAt[place], sort, later);
            }
            return later;
        }

        private int pushedBy(int otherSort, int otherSlot, int sort, int time) {
            if (otherSlot <= time) {
                return Math.max(time, otherSlot + board.gapOf(otherSort, sort));
            }
            return time + board.gapOf(sort, otherSort) <= otherSlot ? time : otherSlot;
        }

        int waitsOf(int sort) {
            layPlan();
            int waits = 0;
            for (int place = 0; place < board.craftCount; place++) {
                if (board.isOf(board.order[place], sort)) {
                    waits += table.waitAt(place);
                }
            }
            return waits;
        }

        int longestWaitOf(int sort) {
            layPlan();
            int longest = 0;
            for (int place = 0; place < board.craftCount; place++) {
                if (board.isOf(board.order[place], sort)) {
                    longest = Math.max(longest, table.waitAt(place));
                }
            }
            return longest;
        }
    }

    /** A DAY, run through on a paper that has GAPS, CLOSED spans, SHIFT, FREEZE already. */
    private static final class Day {
        private static final int BEST_WAY = 1;
        private static final int PUT_IN_WAY = 2;
        private static final int TRADE_WAY = 3;

        private final Runway runway;
        private int drawn;
        int waitsTimesWeights;
        int latestSlot;
        int longestWait;

        Day(Runway runway) {
            this.runway = runway;
        }

        void run(int seed, int n, int way) {
            Board board = runway.board;
            board.clearAway();
            drawn = seed;
            waitsTimesWeights = 0;
            latestSlot = 0;
            longestWait = 0;
            int ready = 0;
            for (int i = 0; i < n; i++) {
                int sort = draw(SORTS);
                ready += draw(10);
                int weight = draw(4) + 1;
                if (ready > board.now) {
                    passTo(ready);
                }
                if (board.isFull()) {
                    passTo(runway.slotOf(board.order[0]));
                }
                board.addCraft(sort, ready, LAST_TIME, weight);
                arrange(way);
            }
            passTo(runway.layPlan().cost(BY_END));
        }

        private int draw(int n) {
            drawn = drawn * 1103515245 + 12345;
            int bits = drawn >>> 16 & 32767;
            return n > 0 ? bits % n : 0;
        }

        private void arrange(int way) {
            Board board = runway.board;
            if (way == BEST_WAY && runway.bestCost(BY_WAITS) != NONE) {
                board.setOrder(runway.search.found);
            }
            int newest = board.craftCount - 1;
            int place = way == PUT_IN_WAY ? runway.placeToPutIn(newest) : NONE;
            if (place != NONE) {
                board.moveTo(newest, place);
            }
            int traded = way == TRADE_WAY ? runway.placeToTrade() : NONE;
            if (traded != NONE) {
                board.swapWithNext(traded);
            }
        }

        /** Those DONE are counted ahead of it: the BOARD forgets them but for the latest ones. */
        private void passTo(int time) {
            Board board = runway.board;
            Timetable table = runway.layPlan();
            int due = table.dueBy(time);
            for (int place = 0; place < due; place++) {
                int slot = table.slotAt[place];
                int wait = table.waitAt(place);
                waitsTimesWeights += wait * board.weight[board.order[place]];
                latestSlot = Math.max(latestSlot, slot);
                longestWait = Math.max(longestWait, wait);
            }
            runway.passTime(time);
        }
    }

    /** Reads a TEXT into a BOARD on paper; at the first FAULT it stops. */
    private static final class Reader {
        static final int NO_FAULT = 0;
        private static final int CANT_STAND = 1;
        private static final int WRONG_NUMBER = 2;
        private static final int TOO_MANY = 3;

        private static final int WORD = 0;
        private static final int NUMBER = 1;
        private static final int SEMICOLON = 2;
        private static final int END = 3;
        private static final int BLANK = 4;
        private static final int STRANGE = 5;

        /** Above all that may be told, so that a long row of figures can't wrap into it. */
        private static final int TOO_GREAT = 100000;

        private final byte[] text;
        private final Board board;
        private int length;
        private int next;
        private int token;
        private int start;
        private int value;
        private int fault;
        /** Of the FAULT. */
        int place;

        Reader(byte[] text, Board board) {
            this.text = text;
            this.board = board;
        }

        int read(int n) {
            length = Math.min(n, text.length);
            next = 0;
            fault = NO_FAULT;
            board.makeNew();
            step();
            for (int line = 0; line <= length && token != END && fault == NO_FAULT; line++) {
                readLine();
            }
            return fault;
        }

        private void readLine() {
            if (isWord("gap")) {
                readGap();
            } else if (isWord("craft")) {
                readCraft();
            } else if (isWord("closed")) {
                readClosed();
            } else if (isWord("shift")) {
                step();
                board.shift = readNumber(0, MOST_SHIFT);
            } else if (isWord("freeze")) {
                step();
                board.freeze = readNumber(0, MOST_FREEZE);
            } else {
                refuse(CANT_STAND);
            }
            stepOver(token == SEMICOLON);
        }

        private void readGap() {
            step();
            int ahead = readSort();
            int behind = readSort();
            board.gaps[ahead * SORTS + behind] = readNumber(0, MOST_GAP);
        }

        private void readCraft() {
            if (board.isFull()) {
                refuse(TOO_MANY);
                return;
            }
            step();
            int sort = readSort();
            int ready = readNumber(0, MOST_READY);
            int latest = readNumber(ready, LAST_TIME);
            int weight = readNumber(0, MOST_WEIGHT);
            board.addCraft(sort, ready, latest, weight);
        }

        private void readClosed() {
            if (board.spanCount >= MOST_SPANS) {
                refuse(TOO_MANY);
                return;
            }
            step();
            int from = readNumber(0, LAST_TIME - 1);
            int to = readNumber(from + 1, LAST_TIME);
            board.addSpan(from, to);
        }

        private int readSort() {
            boolean leaves = isWord("leaves");
            stepOver(leaves || isWord("lands"));
            return 2 * readNumber(0, MOST_KIND) + bit(leaves);
        }

        /** With a FAULT the least one, so that what it is used for stays within bounds. */
        private int readNumber(int least, int most) {
            int number = value;
            if (token != NUMBER) {
                refuse(CANT_STAND);
            } else if (number < least || number > most) {
                refuse(WRONG_NUMBER);
            }
            step();
            return fault == NO_FAULT ? number : least;
        }

        private void stepOver(boolean canStand) {
            if (!canStand) {
                refuse(CANT_STAND);
            }
            step();
        }

        /** The first FAULT stays. */
        private void refuse(int kindOfFault) {
            if (fault == NO_FAULT) {
                fault = kindOfFault;
                place = start;
            }
        }

        /** To the next TOKEN; not any more, where there is a FAULT. */
        private void step() {
            if (fault != NO_FAULT) {
                return;
            }
            while (next < length && tokenOf(text[next]) == BLANK) {
                next++;
            }
            start = next;
            token = next < length ? tokenOf(text[next]) : END;
            if (token == SEMICOLON || token == STRANGE) {
                next++;
            }
            while (token == WORD && next < length && tokenOf(text[next]) == WORD) {
                next++;
            }
            value = 0;
            while (token == NUMBER && next < length && tokenOf(text[next]) == NUMBER) {
                value = value >= TOO_GREAT ? TOO_GREAT : value * 10 + text[next] - '0';
                next++;
            }
        }

        private static int tokenOf(byte first) {
            if (first == ' ' || first == '\n') {
                return BLANK;
            }
            if (first >= 'a' && first <= 'z') {
                return WORD;
            }
            if (first >= '0' && first <= '9') {
                return NUMBER;
            }
            return first == ';' ? SEMICOLON : STRANGE;
        }

        private boolean isWord(String word) {
            if (token != WORD || next - start != word.length()) {
                return false;
            }
            for (int i = 0; i < word.length(); i++) {
                if (text[start + i] != word.charAt(i)) {
                    return false;
                }
            }
            return true;
        }
    }

    /** The BOARD as it was ahead of each of the latest ACTS, in a ring of rows made once. */
    private static final class Acts {
        private final Board[] before = new Board[MOST_ACTS];
        private int first;
        int kept;

        Acts() {
            for (int i = 0; i < MOST_ACTS; i++) {
                before[i] = new Board();
            }
        }

        void keep(Board board) {
            if (kept >= MOST_ACTS) {
                first = (first + 1) % MOST_ACTS;
                kept--;
            }
            before[(first + kept) % MOST_ACTS].copyFrom(board);
            kept++;
        }

        boolean takeBack(Board board) {
            if (kept <= 0) {
                return false;
            }
            kept--;
            board.copyFrom(before[(first + kept) % MOST_ACTS]);
            return true;
        }

        void forget() {
            kept = 0;
        }
    }

    /** What the latest say() SAID. */
    private static final class Saying {
        /** Of one CRAFT: a comma, two signs, @, a SLOT of at most ten figures, an exclamation mark. */
        private static final int MOST_OF_ONE = 15;

        final byte[] text = new byte[MOST_CRAFT * MOST_OF_ONE];
        int length;

        void tellPlan(Board board, Timetable table) {
            length = 0;
            for (int place = 0; place < board.craftCount; place++) {
                int craft = board.order[place];
                if (place > 0) {
                    add(',');
                }
                add(board.leaves(craft) ? 'T' : 'L');
                addNumber(board.sort[craft] / 2);
                add('@');
                addNumber(table.slotAt[place]);
                if (table.isLate(place)) {
                    add('!');
                }
            }
        }

        private void addNumber(int number) {
            int unit = 1;
            for (int figures = 1; figures < 10 && number / unit >= 10; figures++) {
                unit *= 10;
            }
            for (; unit > 0; unit /= 10) {
                add((char) ('0' + number / unit % 10));
            }
        }

        private void add(char sign) {
            if (length < text.length) {
                text[length] = (byte) sign;
                length++;
            }
        }
    }
}
