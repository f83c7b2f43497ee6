import java.util.NoSuchElementException;

/**
 * A print shop: contents with states and proofs, jobs whose pages are laid out on sheets by their
 * bindings, plates that jobs share, prints with makeready by what was on the press, corrections
 * that void sheets, and copies that are bound.
 */
public final class BinderyDesk {
    private static final char SADDLE = 's';
    private static final char PERFECT = 'p';
    private static final char WIRE = 'w';

    private static final int MAX_CONTENTS = 12;
    private static final int MAX_STATE = 99;
    private static final int MAX_JOBS = 4;
    private static final int MAX_PAGES = 16;
    private static final int MAX_SHEETS = 8;
    private static final int MAX_LOTS = 100;
    private static final int MAX_COUNT = 500;
    private static final int MAX_STOCK = 9999;
    private static final int MAX_TRIED_SHEETS = 6;

    private static final int PLATE_MINUTES = 20;
    private static final int BINDING_MINUTES = 15;

    private static final int FRONT = 0;
    private static final int BACK = 1;
    private static final int NO_CONTENT = -1;
    private static final int NO_PLATE = -1;
    private static final int STATE_PAIRS = (MAX_STATE + 1) * (MAX_STATE + 1);
    private static final int CONTENT_PAIRS = MAX_CONTENTS * (MAX_CONTENTS + 1);

    private final Contents contents;
    private final Job[] jobList;
    private final Press press;
    private final PlateRack rack;
    private final Orders orders;
    private final Lot[] lotList;
    private int jobCount;
    private int lotCount;
    private long wasted;
    private long printed;
    private long printCalls;
    private long minutes;

    public BinderyDesk() {
        contents = new Contents();
        jobList = new Job[MAX_JOBS];
        press = new Press();
        rack = new PlateRack();
        orders = new Orders();
        lotList = new Lot[MAX_LOTS];
    }

    // ---- contents

    public int addContent() throws IllegalStateException {
        if (contents.size >= MAX_CONTENTS) {
            throw new IllegalStateException("there are 12 contents");
        }
        return contents.add();
    }

    public boolean approve(int content) throws IndexOutOfBoundsException {
        requireContent(content);
        boolean before = contents.isApproved(content);
        contents.setApproved(content, true);
        return before;
    }

    public int correct(int content) throws IndexOutOfBoundsException, IllegalStateException {
        requireContent(content);
        if (contents.stateOf(content) >= MAX_STATE) {
            throw new IllegalStateException("the content's state is 99");
        }
        int gone = 0;
        for (int i = 0; i < MAX_JOBS; i++) {
            Job job = findJob(i);
            if (job != null) {
                gone += job.takeSheetsShowing(content);
            }
        }
        contents.noteCorrection(content);
        wasted += gone;
        return gone;
    }

    public int state(int content) throws IndexOutOfBoundsException {
        requireContent(content);
        return contents.stateOf(content);
    }

    // ---- jobs and sheets

    public int addJob(char binding) throws IllegalArgumentException, IllegalStateException {
        if (binding != SADDLE && binding != PERFECT && binding != WIRE) {
            throw new IllegalArgumentException("no such binding");
        }
        if (jobCount < 0 || jobCount >= jobList.length) {
            throw new IllegalStateException("there are 4 jobs");
        }
        jobList[jobCount] = new Job(binding);
        jobCount++;
        return jobCount - 1;
    }

    public int addPage(int job, int content) throws IndexOutOfBoundsException, IllegalStateException {
        Job found = existingJob(job);
        requireContent(content);
        if (found.size >= MAX_PAGES) {
            throw new IllegalStateException("the job has 16 pages");
        }
        wasted += found.takeAllSheets();
        found.append(content);
        return found.size;
    }

    public int pages(int job) throws IndexOutOfBoundsException {
        return existingJob(job).size;
    }

    public int sheets(int job) throws IndexOutOfBoundsException, IllegalStateException {
        return completeJob(job).sheetCount();
    }

    public int pageAt(int job, int sheet, int place)
            throws IndexOutOfBoundsException, IllegalStateException, NoSuchElementException {
        Job found = completeJob(job);
        requireSheet(found, sheet);
        if (place < 0 || place >= found.placeCount()) {
            throw new NoSuchElementException("no such place");
        }
        return found.pageOn(sheet, place);
    }

    public int sheetOf(int job, int page)
            throws IndexOutOfBoundsException, IllegalStateException, NoSuchElementException {
        Job found = completeJob(job);
        if (page < 1 || page > found.size) {
            throw new NoSuchElementException("no such page");
        }
        return found.sheetWith(page);
    }

    // ---- printing

    public int print(int job, int sheet, int count)
            throws IndexOutOfBoundsException, IllegalStateException, NoSuchElementException,
                    IllegalArgumentException, UnsupportedOperationException {
        Job found = completeJob(job);
        requireSheet(found, sheet);
        requireCount(count);
        if (!isWhollyApproved(found, sheet)) {
            throw new UnsupportedOperationException("a proof is not approved");
        }
        if (found.stockOf(sheet) + count > MAX_STOCK) {
            throw new UnsupportedOperationException("there would be more than 9999 in stock");
        }
        int front = plateFor(found, sheet, FRONT);
        int back = plateFor(found, sheet, BACK);
        int needed = press.minutesFor(front, back, found.binding);
        press.mount(front, back, found.binding);
        rack.make(front);
        rack.make(back);
        found.addToStock(sheet, count);
        printed += count;
        printCalls++;
        minutes += needed;
        return needed;
    }

    public int makeready(int job, int sheet)
            throws IndexOutOfBoundsException, IllegalStateException, NoSuchElementException {
        Job found = completeJob(job);
        requireSheet(found, sheet);
        return press.minutesFor(
                plateFor(found, sheet, FRONT), plateFor(found, sheet, BACK), found.binding);
    }

    public int leastMakeready(int job) throws IndexOutOfBoundsException, IllegalStateException {
        Job found = completeJob(job);
        loadOrders(found);
        return press.bindingMinutes(found.binding) + orders.leastForAllSets();
    }

    public int leastByTrying(int job)
            throws IndexOutOfBoundsException, IllegalStateException, UnsupportedOperationException {
        Job found = completeJob(job);
        if (found.sheetCount() > MAX_TRIED_SHEETS) {
            throw new UnsupportedOperationException("more than 6 sheets");
        }
        loadOrders(found);
        return press.bindingMinutes(found.binding) + orders.leastOfAllOrders();
    }

    public int stock(int job, int sheet)
            throws IndexOutOfBoundsException, IllegalStateException, NoSuchElementException {
        Job found = completeJob(job);
        requireSheet(found, sheet);
        return found.stockOf(sheet);
    }

    public int plates() {
        return rack.made;
    }

    public int platesNeeded(int job) throws IndexOutOfBoundsException, IllegalStateException {
        Job found = completeJob(job);
        int needed = 0;
        int sides = 2 * found.sheetCount();
        for (int i = 0; i < sides; i++) {
            int plate = plateFor(found, i / 2, i % 2);
            if (!rack.has(plate) && !isOnEarlierSide(found, i, plate)) {
                needed++;
            }
        }
        return needed;
    }

    // ---- binding

    public int bind(int job, int copies)
            throws IndexOutOfBoundsException, IllegalArgumentException, IllegalStateException,
                    UnsupportedOperationException {
        Job found = existingJob(job);
        requireCount(copies);
        requireComplete(found);
        if (lotCount < 0 || lotCount >= lotList.length) {
            throw new IllegalStateException("there are 100 lots");
        }
        if (found.lackFor(copies) > 0) {
            throw new UnsupportedOperationException("a sheet lacks");
        }
        found.takeSheetsFor(copies);
        lotList[lotCount] = newLot(found, copies);
        lotCount++;
        return lotCount - 1;
    }

    public int lacks(int job, int copies)
            throws IndexOutOfBoundsException, IllegalArgumentException, IllegalStateException {
        Job found = existingJob(job);
        requireCount(copies);
        requireComplete(found);
        return found.lackFor(copies);
    }

    public int lots() {
        return lotCount;
    }

    public int copies(int lot) throws IndexOutOfBoundsException {
        return existingLot(lot).amount;
    }

    public int stateIn(int lot, int page) throws IndexOutOfBoundsException, NoSuchElementException {
        Lot found = existingLot(lot);
        requirePage(found, page);
        return found.keptState(page);
    }

    public int stateByReplay(int lot, int page)
            throws IndexOutOfBoundsException, NoSuchElementException {
        Lot found = existingLot(lot);
        requirePage(found, page);
        return contents.stateAfter(found.corrections, found.contentOf(page));
    }

    public int outdated(int content) throws IndexOutOfBoundsException {
        requireContent(content);
        int present = contents.stateOf(content);
        int sum = 0;
        for (int i = 0; i < MAX_LOTS; i++) {
            Lot lot = findLot(i);
            if (lot != null && lot.showsInOtherState(content, present)) {
                sum += lot.amount;
            }
        }
        return sum;
    }

    public long waste() {
        return wasted;
    }

    public float wasteShare() throws ArithmeticException {
        if (printed <= 0) {
            throw new ArithmeticException("nothing was printed");
        }
        return (float) wasted / (float) printed;
    }

    public double meanMakeready() throws ArithmeticException {
        if (printCalls <= 0) {
            throw new ArithmeticException("nothing was printed");
        }
        return (double) minutes / (double) printCalls;
    }

    // ---- what the calls ask first

    private void requireContent(int content) {
        if (content < 0 || content >= contents.size) {
            throw new IndexOutOfBoundsException("no such content");
        }
    }

    private Job findJob(int job) {
        return job >= 0 && job < jobCount && job < jobList.length ? jobList[job] : null;
    }

    private Job existingJob(int job) {
        Job found = findJob(job);
        if (found == null) {
            throw new IndexOutOfBoundsException("no such job");
        }
        return found;
    }

    private Job completeJob(int job) {
        Job found = existingJob(job);
        requireComplete(found);
        return found;
    }

    private static void requireComplete(Job job) {
        if (!job.isComplete()) {
            throw new IllegalStateException("the job is not complete");
        }
    }

    private static void requireSheet(Job job, int sheet) {
        if (sheet < 0 || sheet >= job.sheetCount()) {
            throw new NoSuchElementException("no such sheet");
        }
    }

    private static void requireCount(int count) {
        if (count < 1 || count > MAX_COUNT) {
            throw new IllegalArgumentException("the number is not 1 to 500");
        }
    }

    private Lot findLot(int lot) {
        return lot >= 0 && lot < lotCount && lot < lotList.length ? lotList[lot] : null;
    }

    private Lot existingLot(int lot) {
        Lot found = findLot(lot);
        if (found == null) {
            throw new IndexOutOfBoundsException("no such lot");
        }
        return found;
    }

    private static void requirePage(Lot lot, int page) {
        if (page < 1 || page > lot.size) {
            throw new NoSuchElementException("the lot has no such page");
        }
    }

    // ---- what several calls need

    private boolean isWhollyApproved(Job job, int sheet) {
        int places = job.placeCount();
        for (int place = 0; place < places; place++) {
            if (!contents.isApproved(job.contentOn(sheet, place))) {
                return false;
            }
        }
        return true;
    }

    private int plateFor(Job job, int sheet, int side) {
        if (job.placeCount() == 2) {
            return contents.plateOf(job.contentOn(sheet, side), NO_CONTENT);
        }
        return contents.plateOf(
                job.contentOn(sheet, 2 * side), job.contentOn(sheet, 2 * side + 1));
    }

    private boolean isOnEarlierSide(Job job, int sides, int plate) {
        for (int i = 0; i < sides; i++) {
            if (plateFor(job, i / 2, i % 2) == plate) {
                return true;
            }
        }
        return false;
    }

    private void loadOrders(Job job) {
        int sheetCount = job.sheetCount();
        orders.start(sheetCount, press.front, press.back);
        for (int sheet = 0; sheet < sheetCount; sheet++) {
            orders.setSheet(sheet, plateFor(job, sheet, FRONT), plateFor(job, sheet, BACK));
        }
    }

    private Lot newLot(Job job, int amount) {
        Lot lot = new Lot(amount, job.size, contents.corrections);
        for (int page = 1; page <= job.size; page++) {
            int content = job.contentOf(page);
            // What is in stock was printed in the present states: corrections void the rest.
            lot.keep(page, content, contents.stateOf(content));
        }
        return lot;
    }

    // Rows are read and written by these two wherever a loop does not bound the index itself, so
    // that no index is used that was not tested.

    private static int at(int[] row, int index) {
        return index >= 0 && index < row.length ? row[index] : 0;
    }

    private static void put(int[] row, int index, int value) {
        if (index >= 0 && index < row.length) {
            row[index] = value;
        }
    }

    /** The contents' states and proofs, and the corrections in their order. */
    private static final class Contents {
        private final int[] states;
        private final int[] approvals;
        private final int[] corrected;
        private int size;
        private int corrections;

        Contents() {
            states = new int[MAX_CONTENTS];
            approvals = new int[MAX_CONTENTS];
            corrected = new int[MAX_CONTENTS * MAX_STATE];
        }

        int add() {
            size++;
            return size - 1;
        }

        int stateOf(int content) {
            return at(states, content);
        }

        boolean isApproved(int content) {
            return at(approvals, content) == 1;
        }

        void setApproved(int content, boolean approved) {
            put(approvals, content, approved ? 1 : 0);
        }

        void noteCorrection(int content) {
            put(states, content, stateOf(content) + 1);
            setApproved(content, false);
            put(corrected, corrections, content);
            corrections++;
        }

        int stateAfter(int count, int content) {
            int replayed = 0;
            for (int i = 0; i < count && i < corrected.length; i++) {
                if (corrected[i] == content) {
                    replayed++;
                }
            }
            return replayed;
        }

        /** The plate of a side with one content (the second is NO_CONTENT then) or two. */
        int plateOf(int first, int second) {
            int pair = first * (MAX_CONTENTS + 1) + second + 1;
            int secondState = second == NO_CONTENT ? 0 : stateOf(second);
            return pair * STATE_PAIRS + stateOf(first) * (MAX_STATE + 1) + secondState;
        }
    }

    /** A job: the contents of its pages, and how many of its sheets are in stock. */
    private static final class Job {
        private final char binding;
        private final int[] shown;
        private final int[] piles;
        private int size;

        Job(char binding) {
            this.binding = binding;
            shown = new int[MAX_PAGES];
            piles = new int[MAX_SHEETS];
        }

        void append(int content) {
            put(shown, size, content);
            size++;
        }

        int contentOf(int page) {
            return at(shown, page - 1);
        }

        int placeCount() {
            return binding == WIRE ? 2 : 4;
        }

        boolean isComplete() {
            return size > 0 && (binding == WIRE ? size % 2 : size % 4) == 0;
        }

        int sheetCount() {
            return binding == WIRE ? size / 2 : size / 4;
        }

        int pageOn(int sheet, int place) {
            if (binding == WIRE) {
                return 2 * sheet + 1 + place;
            }
            if (binding == PERFECT) {
                return place == 0 ? 4 * sheet + 4 : 4 * sheet + place;
            }
            switch (place) {
                case 0:
                    return size - 2 * sheet;
                case 1:
                    return 2 * sheet + 1;
                case 2:
                    return 2 * sheet + 2;
                default:
                    return size - 2 * sheet - 1;
            }
        }

        int contentOn(int sheet, int place) {
            return contentOf(pageOn(sheet, place));
        }

        boolean hasPage(int sheet, int page) {
            int places = placeCount();
            for (int place = 0; place < places; place++) {
                if (pageOn(sheet, place) == page) {
                    return true;
                }
            }
            return false;
        }

        int sheetWith(int page) {
            int count = sheetCount();
            for (int sheet = 0; sheet < count; sheet++) {
                if (hasPage(sheet, page)) {
                    return sheet;
                }
            }
            return -1;
        }

        boolean isShowing(int sheet, int content) {
            int places = placeCount();
            for (int place = 0; place < places; place++) {
                if (contentOn(sheet, place) == content) {
                    return true;
                }
            }
            return false;
        }

        int stockOf(int sheet) {
            return at(piles, sheet);
        }

        void addToStock(int sheet, int count) {
            put(piles, sheet, at(piles, sheet) + count);
        }

        int takeSheets(int sheet) {
            int taken = at(piles, sheet);
            put(piles, sheet, 0);
            return taken;
        }

        int takeAllSheets() {
            int taken = 0;
            for (int sheet = 0; sheet < MAX_SHEETS; sheet++) {
                taken += takeSheets(sheet);
            }
            return taken;
        }

        int takeSheetsShowing(int content) {
            int taken = 0;
            int count = sheetCount();
            for (int sheet = 0; sheet < count; sheet++) {
                if (isShowing(sheet, content)) {
                    taken += takeSheets(sheet);
                }
            }
            return taken;
        }

        int lackFor(int copyCount) {
            int sum = 0;
            int count = sheetCount();
            for (int sheet = 0; sheet < count; sheet++) {
                sum += Math.max(0, copyCount - at(piles, sheet));
            }
            return sum;
        }

        void takeSheetsFor(int copyCount) {
            int count = sheetCount();
            for (int sheet = 0; sheet < count; sheet++) {
                addToStock(sheet, -copyCount);
            }
        }
    }

    /** What is on the press: nothing at first. */
    private static final class Press {
        private int front;
        private int back;
        private char binding;

        Press() {
            front = NO_PLATE;
            back = NO_PLATE;
            binding = ' ';
        }

        int bindingMinutes(char wanted) {
            return binding == wanted ? 0 : BINDING_MINUTES;
        }

        int minutesFor(int wantedFront, int wantedBack, char wantedBinding) {
            int sum = bindingMinutes(wantedBinding);
            if (front != wantedFront) {
                sum += PLATE_MINUTES;
            }
            if (back != wantedBack) {
                sum += PLATE_MINUTES;
            }
            return sum;
        }

        void mount(int newFront, int newBack, char newBinding) {
            front = newFront;
            back = newBack;
            binding = newBinding;
        }
    }

    /**
     * The plates that were made. States only grow, and only plates of the present states are asked
     * for: so the latest plate of the same contents is the only one that can be asked for again.
     */
    private static final class PlateRack {
        private final int[] latest;
        private int made;

        PlateRack() {
            latest = new int[CONTENT_PAIRS];
            for (int i = 0; i < latest.length; i++) {
                latest[i] = NO_PLATE;
            }
        }

        boolean has(int plate) {
            return at(latest, plate / STATE_PAIRS) == plate;
        }

        void make(int plate) {
            if (!has(plate)) {
                put(latest, plate / STATE_PAIRS, plate);
                made++;
            }
        }
    }

    /** The orders in which a job's sheets can be printed, from what is on the press. */
    private static final class Orders {
        private static final int ON_PRESS = MAX_SHEETS;
        private static final int TOO_MUCH = 1000000;

        private final int[] fronts;
        private final int[] backs;
        private final int[] leastEnding;
        private int size;

        Orders() {
            fronts = new int[MAX_SHEETS + 1];
            backs = new int[MAX_SHEETS + 1];
            leastEnding = new int[(1 << MAX_SHEETS) * MAX_SHEETS];
        }

        void start(int sheetCount, int pressFront, int pressBack) {
            size = Math.max(0, Math.min(sheetCount, MAX_SHEETS));
            put(fronts, ON_PRESS, pressFront);
            put(backs, ON_PRESS, pressBack);
        }

        void setSheet(int sheet, int front, int back) {
            put(fronts, sheet, front);
            put(backs, sheet, back);
        }

        private static int change(int[] fronts, int[] backs, int before, int after) {
            int frontMinutes = at(fronts, before) == at(fronts, after) ? 0 : PLATE_MINUTES;
            int backMinutes = at(backs, before) == at(backs, after) ? 0 : PLATE_MINUTES;
            return frontMinutes + backMinutes;
        }

        int leastForAllSets() {
            int all = (1 << size) - 1;
            for (int set = 1; set <= all; set++) {
                for (int last = 0; last < size; last++) {
                    if ((set & (1 << last)) != 0) {
                        put(leastEnding, set * MAX_SHEETS + last, leastOfSet(set, last));
                    }
                }
            }
            int least = TOO_MUCH;
            for (int last = 0; last < size; last++) {
                least = Math.min(least, at(leastEnding, all * MAX_SHEETS + last));
            }
            return least;
        }

        /** The least to print a set of sheets with one of them last; smaller sets are known. */
        private int leastOfSet(int set, int last) {
            int rest = set & ~(1 << last);
            if (rest == 0) {
                return change(fronts, backs, ON_PRESS, last);
            }
            int least = TOO_MUCH;
            for (int before = 0; before < size; before++) {
                if ((rest & (1 << before)) != 0) {
                    int sum = at(leastEnding, rest * MAX_SHEETS + before)
                            + change(fronts, backs, before, last);
                    least = Math.min(least, sum);
                }
            }
            return least;
        }

        int leastOfAllOrders() {
            return leastOfRest(fronts, backs, size, 0, ON_PRESS, 0);
        }

        /** The least over all orders of the sheets that are not used yet; depth are used. */
        private static int leastOfRest(
                int[] fronts, int[] backs, int size, int used, int before, int depth) {
            if (depth >= size || depth >= MAX_TRIED_SHEETS) {
                return 0;
            }
            int least = TOO_MUCH;
            for (int next = 0; next < size; next++) {
                int bit = 1 << next;
                if ((used & bit) == 0) {
                    int sum = change(fronts, backs, before, next)
                            + leastOfRest(fronts, backs, size, used | bit, next, depth + 1);
                    least = Math.min(least, sum);
                }
            }
            return least;
        }
    }

    /** Copies that were bound at once, with the state of every page's content. */
    private static final class Lot {
        private final int amount;
        private final int size;
        private final int corrections;
        private final int[] shown;
        private final int[] kept;

        Lot(int amount, int size, int corrections) {
            this.amount = amount;
            this.size = size;
            this.corrections = corrections;
            shown = new int[MAX_PAGES];
            kept = new int[MAX_PAGES];
        }

        void keep(int page, int content, int contentState) {
            put(shown, page - 1, content);
            put(kept, page - 1, contentState);
        }

        int contentOf(int page) {
            return at(shown, page - 1);
        }

        int keptState(int page) {
            return at(kept, page - 1);
        }

        boolean showsInOtherState(int content, int present) {
            for (int page = 1; page <= size; page++) {
                if (contentOf(page) == content && keptState(page) != present) {
                    return true;
                }
            }
            return false;
        }
    }
}
