import java.util.Arrays;

/** Stone against sea: see README.md; the promises are those of ../shared/DOC.md. */
public final class StoneWorks {
    public static final int NONE = -1000000, BAD = -1000001, STATE = -1000002, FULL = -1000003;

    private static final int NOT_REFUSED = 0;
    private static final int FINDINGS = -1000010;
    private static final int NO_FINDING = 0;
    private static final int FOUND_NULL = 1;
    private static final int FOUND_PLACE = 2;
    private static final int FOUND_KIND = 3;
    private static final int FOUND_SIZE = 4;
    private static final int FOUND_STORE = 5;

    private static final int CREST = 0;
    private static final int TOP = 1;
    private static final int SLOPE = 2;
    private static final int LENGTH = 3;
    private static final int FILTER = 4;
    private static final int THICK = 5;
    private static final int WEIGHT = 6;
    private static final int HOLDS = 7;

    private static final int LAYER = 0;
    private static final int COVER = 1;
    private static final int ARMOUR = 2;
    private static final int UNDER = 3;
    private static final int LOOSE = 4;

    private static final int MOST_REACH = 30;
    private static final int MOST_DAYS = 20;
    private static final int MOST_TIDE = 20;
    private static final int MOST_TOLD = 1000000;
    private static final int MOST_SIDE = 10;
    private static final int MOST_STEP = 1000;
    private static final int MOST_SPOTS = 50;

    private final Sheets sheets = new Sheets();
    private final Wall wall = new Wall();
    private final Quarry quarry = new Quarry();
    private final Pile pile = new Pile();
    private final Hours hours = new Hours();
    private final Surveys surveys = new Surveys();
    private final Asks asks = new Asks();
    private int status = NO_FINDING;

    public StoneWorks() {
    }

    // ---- sheets

    public int sheet(int sheet, int lane, int n) {
        if (!Sheets.isNumber(sheet) || !within(lane, 0, Sheets.INTS) || n > Sheets.MOST_ITEMS) {
            return BAD;
        }
        if (n < 0) {
            return found(FOUND_SIZE);
        }
        sheets.make(sheet, lane, n);
        return fine(n);
    }

    public int set(int sheet, int i, int v) {
        if (!Sheets.isNumber(sheet)) {
            return BAD;
        }
        int finding = sheets.findingAt(sheet, i, 1);
        if (finding != NO_FINDING) {
            return found(finding);
        }
        return fine(sheets.put(sheet, i, v));
    }

    public int copy(int a, int i, int b, int j, int n) {
        if (!Sheets.isNumber(a) || !Sheets.isNumber(b)) {
            return BAD;
        }
        if (sheets.isMissing(a) || sheets.isMissing(b)) {
            return found(FOUND_NULL);
        }
        if (!sheets.areOfOneLane(a, b)) {
            return found(FOUND_STORE);
        }
        if (!sheets.hasItems(a, i, n) || !sheets.hasItems(b, j, n)) {
            return found(FOUND_PLACE);
        }
        sheets.move(a, i, b, j, n);
        return fine(n);
    }

    public int drop(int sheet) {
        if (!Sheets.isNumber(sheet)) {
            return BAD;
        }
        if (sheets.isMissing(sheet)) {
            return found(FOUND_NULL);
        }
        return fine(sheets.remove(sheet));
    }

    // ---- the wall

    public int wall(int what, int v) {
        if (!Wall.isMeasure(what) || !Wall.mayMeasure(what, v)) {
            return BAD;
        }
        return wall.change(what, v);
    }

    public int layer(int thick, int weight) {
        if (!Wall.mayBeLayer(thick, weight)) {
            return BAD;
        }
        if (wall.isFull()) {
            return FULL;
        }
        return wall.addLayer(thick, weight);
    }

    public int relay(int layer, int thick, int weight) {
        if (!wall.hasLayer(layer) || !Wall.mayBeLayer(thick, weight)) {
            return BAD;
        }
        wall.putLayer(layer, thick, weight);
        return 1;
    }

    public int told(int layer, int what) {
        if (Wall.isMeasure(what)) {
            return wall.measure(what);
        }
        if (!wall.hasLayer(layer)) {
            return BAD;
        }
        switch (what) {
            case THICK:
                return wall.thickOf(layer);
            case WEIGHT:
                return wall.weightOf(layer);
            case HOLDS:
                return wall.holds(layer) ? 1 : 0;
            default:
                return BAD;
        }
    }

    public int wide(int k, int h) {
        if (!within(k, 0, wall.layers()) || !within(h, 0, wall.measure(CREST) - 1)) {
            return BAD;
        }
        return wall.widthWithout(k, h);
    }

    public int volume(int layer) {
        if (layer == NONE) {
            return wall.wholeVolume();
        }
        if (!within(layer, 0, wall.layers())) {
            return BAD;
        }
        return wall.volumeOf(layer);
    }

    // ---- the quarry

    public int shared(int sheet, int i, int sort, int k) {
        boolean sortFits = sort == NONE || within(sort, 0, Quarry.SORTS - 1);
        if (!Sheets.isNumber(sheet) || !sortFits || !within(k, 0, Quarry.TAKERS - 1)) {
            return BAD;
        }
        int finding = sheets.findingAt(sheet, i, Quarry.ITEMS);
        if (finding != NO_FINDING) {
            return found(finding);
        }
        if (!quarry.read(sheets, sheet, i)) {
            return BAD;
        }
        quarry.share();
        return fine(sort == NONE ? quarry.waste() : quarry.given(sort, k));
    }

    // ---- laying

    public int lay(int row, int place) {
        if (!Pile.isPlace(row, place)) {
            return BAD;
        }
        return pile.add(row, place) ? 1 : STATE;
    }

    public int lift(int row, int place) {
        if (!Pile.isPlace(row, place)) {
            return BAD;
        }
        return pile.take(row, place) ? 1 : STATE;
    }

    public int reaches(int c, int reach, int row, int place) {
        if (!isCrane(c, reach) || !Pile.isPlace(row, place)) {
            return BAD;
        }
        return Pile.isNear(c, reach, row, place) ? 1 : 0;
    }

    public int order(int c, int reach, int m) {
        if (!isCrane(c, reach) || !within(m, 1, Pile.ROWS)) {
            return BAD;
        }
        return pile.putInTurn(c, reach, m);
    }

    public int planned(int c, int reach, int m, int sheet, int i, int n, int row, int place) {
        if (!isCrane(c, reach) || !within(m, 1, Pile.ROWS) || !Sheets.isNumber(sheet)
                || !within(n, 1, MOST_DAYS) || !Pile.isPlace(row, place)) {
            return BAD;
        }
        int finding = sheets.findingAt(sheet, i, n);
        if (finding != NO_FINDING) {
            return found(finding);
        }
        if (!sheets.areWithin(sheet, i, n, MOST_TIDE)) {
            return BAD;
        }
        pile.putInTurn(c, reach, m);
        return fine(row < m ? dayOf(pile.turnOf(row, place), sheet, i, n) : NONE);
    }

    private int dayOf(int turn, int sheet, int i, int n) {
        if (turn == NONE) {
            return NONE;
        }
        int laid = 0;
        for (int day = 0; day < n; day++) {
            laid += sheets.item(sheet, i + day);
            if (turn < laid) {
                return day;
            }
        }
        return NONE;
    }

    private static boolean isCrane(int c, int reach) {
        return within(c, 0, Pile.PLACES - 1) && within(reach, 0, MOST_REACH);
    }

    // ---- storms

    public int storm(int sheet, int i, int n, int what) {
        if (!Sheets.isNumber(sheet) || !within(n, 1, Hours.MOST) || !within(what, 0, 1)) {
            return BAD;
        }
        int refusal = readHours(sheet, i, n);
        if (refusal != NOT_REFUSED) {
            return refusal;
        }
        return fine(what == 0 ? hours.harm(wall.blockSize(), wall.measure(SLOPE))
                : hours.over(wall.measure(CREST)));
    }

    public int design(int sheet, int i, int n, int harm, int over, int what) {
        if (!Sheets.isNumber(sheet) || !within(n, 1, Hours.MOST) || !within(harm, 0, MOST_TOLD)
                || !within(over, 0, MOST_TOLD) || !within(what, 0, 2)) {
            return BAD;
        }
        int refusal = readHours(sheet, i, n);
        if (refusal != NOT_REFUSED) {
            return refusal;
        }
        return fine(leastDesign(harm, over, what));
    }

    private int readHours(int sheet, int i, int n) {
        int finding = sheets.findingAt(sheet, i, 2 * n);
        if (finding != NO_FINDING) {
            return found(finding);
        }
        return hours.read(sheets, sheet, i, n) ? NOT_REFUSED : BAD;
    }

    // HARM hangs on the WEIGHT alone, OVER on the CREST alone, and COST never falls as either
    // grows: so the least CREST with the least WEIGHT is the DESIGN, ties too.
    private int leastDesign(int harm, int over, int what) {
        int slope = wall.measure(SLOPE);
        int crest = hours.leastCrest(over);
        int size = hours.leastBlockSize(harm, slope);
        if (crest == NONE || size == NONE) {
            return NONE;
        }
        int weight = size * size * size;
        switch (what) {
            case 0:
                return crest;
            case 1:
                return weight;
            default:
                return crest * crest * slope + weight / 10;
        }
    }

    // ---- surveys, harbours

    public int survey(int a, int b, int w, int h, int s, int what) {
        if (!Sheets.isNumber(a) || !Sheets.isNumber(b) || !within(w, 1, MOST_SIDE)
                || !within(h, 1, MOST_SIDE) || !within(s, 1, MOST_STEP) || !within(what, 0, 3)) {
            return BAD;
        }
        if (sheets.isMissing(a) || sheets.isMissing(b)) {
            return found(FOUND_NULL);
        }
        if (!sheets.hasItems(a, 0, w * h) || !sheets.hasItems(b, 0, w * h)) {
            return found(FOUND_PLACE);
        }
        surveys.compare(sheets, a, b, w * h, s);
        surveys.gather(w, h);
        return fine(surveys.result(what));
    }

    public long wave(int w, int h, int b, int size, int k, int x, int y) {
        if (!Harbour.isOne(w, h, b) || !within(size, 1, Harbour.MOST_SIZE)
                || !within(k, 0, 4) || !within(x, 0, w) || !within(y, 0, h)) {
            return BAD;
        }
        return Harbour.comesTo(w, h, b, size, k, x, y);
    }

    public int calm(int w, int h, int b, int sheet, int i, int n) {
        if (!Harbour.isOne(w, h, b) || !Sheets.isNumber(sheet) || !within(n, 1, MOST_SPOTS)) {
            return BAD;
        }
        int finding = sheets.findingAt(sheet, i, 2 * n);
        if (finding != NO_FINDING) {
            return found(finding);
        }
        if (!areSpots(w, h, sheet, i, n)) {
            return BAD;
        }
        return fine(calmest(w, h, b, sheet, i, n));
    }

    private boolean areSpots(int w, int h, int sheet, int i, int n) {
        for (int spot = 0; spot < n; spot++) {
            int at = i + 2 * spot;
            if (!within(sheets.item(sheet, at), 0, w) || !within(sheets.item(sheet, at + 1), 0, h)) {
                return false;
            }
        }
        return true;
    }

    private int calmest(int w, int h, int b, int sheet, int i, int n) {
        int best = 0;
        long least = 0;
        for (int spot = 0; spot < n; spot++) {
            int x = sheets.item(sheet, i + 2 * spot);
            int y = sheets.item(sheet, i + 2 * spot + 1);
            long comes = Harbour.comesTo(w, h, b, Harbour.MOST_SIZE, 2, x, y);
            if (spot == 0 || comes < least) {
                least = comes;
                best = spot;
            }
        }
        return best;
    }

    // ---- asked

    public int kind(int layer) {
        if (!wall.hasLayer(layer)) {
            return BAD;
        }
        return wall.kindOf(layer);
    }

    public int as(int layer, int kind) {
        if (!wall.hasLayer(layer) || !within(kind, LAYER, LOOSE)) {
            return BAD;
        }
        if (!wall.isOfKind(layer, kind)) {
            return found(FOUND_KIND);
        }
        return fine(wall.weightOf(layer));
    }

    public int ask(int layer, int what) {
        if (!wall.hasLayer(layer) || !within(what, 0, 1)) {
            return BAD;
        }
        asks.forget();
        return what == 0 ? asks.worth(wall, layer) : asks.mark(wall, layer);
    }

    public int trace(int i) {
        return asks.traced(i);
    }

    public int count(int what) {
        switch (what) {
            case 0:
                return sheets.present();
            case 1:
                return wall.layers();
            case 2:
                return wall.holding();
            case 3:
                return wall.loose();
            case 4:
                return pile.blocks();
            case 5:
                return Pile.allPlaces();
            default:
                return BAD;
        }
    }

    public int status() {
        return status;
    }

    // An ITEM may have any value, those of refusals too: so status() can't be read off an answer.
    private int found(int finding) {
        status = finding;
        return FINDINGS - finding;
    }

    private int fine(int answer) {
        status = NO_FINDING;
        return answer;
    }

    private static boolean within(int v, int least, int most) {
        return v >= least && v <= most;
    }

    /** SHEETS in one row, so that making one anew takes no new room. */
    private static final class Sheets {
        private static final int SHEETS = 8;
        private static final int MOST_ITEMS = 100;
        private static final int BYTES = 0;
        private static final int SHORTS = 1;
        private static final int INTS = 2;
        private static final int MISSING = -1;

        private final int[] items = new int[SHEETS * MOST_ITEMS];
        private final int[] lanes = new int[SHEETS];
        private final int[] sizes = new int[SHEETS];

        Sheets() {
            Arrays.fill(sizes, MISSING);
        }

        static boolean isNumber(int sheet) {
            return within(sheet, 0, SHEETS - 1);
        }

        boolean isMissing(int sheet) {
            return sizes[sheet] == MISSING;
        }

        boolean areOfOneLane(int a, int b) {
            return lanes[a] == lanes[b];
        }

        // i + n could wrap around; an i of 0 or more taken from a size can't.
        boolean hasItems(int sheet, int i, int n) {
            return i >= 0 && n >= 0 && n <= sizes[sheet] - i;
        }

        int findingAt(int sheet, int i, int n) {
            if (isMissing(sheet)) {
                return FOUND_NULL;
            }
            return hasItems(sheet, i, n) ? NO_FINDING : FOUND_PLACE;
        }

        void make(int sheet, int lane, int n) {
            lanes[sheet] = lane;
            sizes[sheet] = n;
            int first = sheet * MOST_ITEMS;
            Arrays.fill(items, first, first + n, 0);
        }

        int remove(int sheet) {
            int size = sizes[sheet];
            sizes[sheet] = MISSING;
            return size;
        }

        int item(int sheet, int i) {
            return items[sheet * MOST_ITEMS + i];
        }

        int put(int sheet, int i, int v) {
            int kept = cutToLane(lanes[sheet], v);
            items[sheet * MOST_ITEMS + i] = kept;
            return kept;
        }

        private static int cutToLane(int lane, int v) {
            switch (lane) {
                case BYTES:
                    return (byte) v;
                case SHORTS:
                    return (short) v;
                default:
                    return v;
            }
        }

        void move(int a, int i, int b, int j, int n) {
            System.arraycopy(items, a * MOST_ITEMS + i, items, b * MOST_ITEMS + j, n);
        }

        boolean areWithin(int sheet, int i, int n, int most) {
            for (int at = i; at < i + n; at++) {
                if (!within(item(sheet, at), 0, most)) {
                    return false;
                }
            }
            return true;
        }

        int present() {
            int present = 0;
            for (int sheet = 0; sheet < SHEETS; sheet++) {
                if (!isMissing(sheet)) {
                    present++;
                }
            }
            return present;
        }
    }

    /** The WALL: its measures, its LAYERS from the outermost on, their KINDS. */
    private static final class Wall {
        private static final int MOST_LAYERS = 6;
        private static final int MOST_THICK = 10;
        private static final int MOST_WEIGHT = 60000;
        private static final int ARMOUR_WEIGHT = 1000;
        private static final int MOST_BLOCK_SIZE = 40; // 40 * 40 * 40 is above MOST_WEIGHT
        private static final int[] LEAST = {1, 1, 1, 1, 2};
        private static final int[] MOST = {100, 50, 60, 1000, 30};

        private final int[] measures = {20, 6, 15, 10, 15};
        private final int[] thicks = new int[MOST_LAYERS];
        private final int[] weights = new int[MOST_LAYERS];
        private int layers = 0;

        static boolean isMeasure(int what) {
            return within(what, CREST, FILTER);
        }

        static boolean mayMeasure(int what, int v) {
            return within(v, LEAST[what], MOST[what]);
        }

        static boolean mayBeLayer(int thick, int weight) {
            return within(thick, 1, MOST_THICK) && within(weight, 1, MOST_WEIGHT);
        }

        int measure(int what) {
            return measures[what];
        }

        int change(int what, int v) {
            int was = measures[what];
            measures[what] = v;
            return was;
        }

        int layers() {
            return layers;
        }

        boolean hasLayer(int layer) {
            return within(layer, 0, layers - 1);
        }

        boolean isFull() {
            return layers >= MOST_LAYERS;
        }

        int addLayer(int thick, int weight) {
            int number = layers;
            layers++;
            putLayer(number, thick, weight);
            return number;
        }

        void putLayer(int layer, int thick, int weight) {
            thicks[layer] = thick;
            weights[layer] = weight;
        }

        int thickOf(int layer) {
            return thicks[layer];
        }

        int weightOf(int layer) {
            return weights[layer];
        }

        int widthWithout(int k, int h) {
            int thick = 0;
            for (int layer = 0; layer < k; layer++) {
                thick += thicks[layer];
            }
            int crest = measures[CREST];
            int slope = measures[SLOPE];
            if (h >= crest - thick) {
                return 0;
            }
            int whole = measures[TOP] + 2 * (crest - h) * slope / 10;
            return Math.max(0, whole - 2 * thick * (10 + slope) / 10);
        }

        int volumeOf(int layer) {
            int cuts = 0;
            for (int h = 0; h < measures[CREST]; h++) {
                int inner = layer < layers ? widthWithout(layer + 1, h) : 0;
                cuts += Math.max(0, widthWithout(layer, h) - inner);
            }
            return cuts * measures[LENGTH];
        }

        int wholeVolume() {
            int cuts = 0;
            for (int h = 0; h < measures[CREST]; h++) {
                cuts += widthWithout(0, h);
            }
            return cuts * measures[LENGTH];
        }

        boolean holds(int layer) {
            if (layer == layers - 1) {
                return true;
            }
            int inner = weights[layer + 1];
            return weights[layer] > inner && weights[layer] <= measures[FILTER] * inner;
        }

        int kindOf(int layer) {
            boolean holds = holds(layer);
            if (layer == 0) {
                return holds && weights[0] >= ARMOUR_WEIGHT ? ARMOUR : COVER;
            }
            return holds ? UNDER : LOOSE;
        }

        boolean isOfKind(int layer, int kind) {
            int own = kindOf(layer);
            return kind == LAYER || kind == own || kind == COVER && own == ARMOUR;
        }

        int holding() {
            int holding = 0;
            for (int layer = 0; layer < layers; layer++) {
                if (holds(layer)) {
                    holding++;
                }
            }
            return holding;
        }

        int loose() {
            int loose = 0;
            for (int layer = 0; layer < layers; layer++) {
                if (kindOf(layer) == LOOSE) {
                    loose++;
                }
            }
            return loose;
        }

        int blockSize() {
            int weight = layers == 0 ? 1 : weights[0];
            int size = 1;
            while (size < MOST_BLOCK_SIZE && size * size * size < weight) {
                size++;
            }
            return size;
        }
    }

    /** The QUARRY: who gets what of 4 SORTS, by the cuts of a flow from SORTS to LAYERS. */
    private static final class Quarry {
        private static final int SORTS = 4;
        private static final int TAKERS = 3;
        private static final int ITEMS = SORTS + TAKERS + TAKERS;
        private static final int WON = 100;
        private static final int ALL_SORTS = 15;
        private static final int TAKER_SETS = 8;

        private final int[] yields = new int[SORTS];
        private final int[] needs = new int[TAKERS];
        private final int[] takers = new int[SORTS]; // bits by LAYERS that may still take of a SORT
        private final int[] given = new int[SORTS * TAKERS];
        private int waste = 0;

        boolean read(Sheets sheets, int sheet, int i) {
            int needAt = i + SORTS;
            int allowedAt = needAt + TAKERS;
            if (!sheets.areWithin(sheet, i, SORTS + TAKERS, WON)
                    || !sheets.areWithin(sheet, allowedAt, TAKERS, ALL_SORTS)) {
                return false;
            }
            int won = 0;
            for (int sort = 0; sort < SORTS; sort++) {
                yields[sort] = sheets.item(sheet, i + sort);
                won += yields[sort];
                takers[sort] = 0;
            }
            for (int k = 0; k < TAKERS; k++) {
                needs[k] = sheets.item(sheet, needAt + k);
                admit(k, sheets.item(sheet, allowedAt + k));
            }
            return won == WON;
        }

        private void admit(int k, int allowed) {
            for (int sort = 0; sort < SORTS; sort++) {
                if ((allowed >> sort & 1) == 1) {
                    takers[sort] |= 1 << k;
                }
            }
        }

        // Each pair in turn gets the most that leaves the rest able to waste no more; then it is
        // settled, and the rest is a smaller quarry.
        void share() {
            int left = mostGiven();
            waste = WON - left;
            for (int sort = 0; sort < SORTS; sort++) {
                for (int k = 0; k < TAKERS; k++) {
                    int part = mostBetween(sort, k, left);
                    given[sort * TAKERS + k] = part;
                    yields[sort] -= part;
                    needs[k] -= part;
                    takers[sort] &= ~(1 << k);
                    left -= part;
                }
            }
        }

        int waste() {
            return waste;
        }

        int given(int sort, int k) {
            return given[sort * TAKERS + k];
        }

        // The most that flows is the least that cuts it off.
        private int mostGiven() {
            int least = WON;
            for (int filled = 0; filled < TAKER_SETS; filled++) {
                least = Math.min(least, cutOff(filled));
            }
            return least;
        }

        // With these LAYERS filled, what no SORT can give beyond: their NEEDS, and the whole of
        // each SORT that another LAYER may take, too.
        private int cutOff(int filled) {
            int sum = 0;
            for (int k = 0; k < TAKERS; k++) {
                if ((filled >> k & 1) == 1) {
                    sum += needs[k];
                }
            }
            for (int sort = 0; sort < SORTS; sort++) {
                if (isTakenBeyond(sort, filled)) {
                    sum += yields[sort];
                }
            }
            return sum;
        }

        private boolean isTakenBeyond(int sort, int filled) {
            return (takers[sort] & ~filled) != 0;
        }

        // A part that goes from sort to k lessens a cut twice if that cut has both ends of it, but
        // what is left to give only once: so no such cut may have less to spare than the part.
        private int mostBetween(int sort, int k, int left) {
            if ((takers[sort] >> k & 1) == 0) {
                return 0;
            }
            int most = Math.min(yields[sort], needs[k]);
            for (int filled = 0; filled < TAKER_SETS; filled++) {
                if ((filled >> k & 1) == 1 && isTakenBeyond(sort, filled)) {
                    most = Math.min(most, cutOff(filled) - left);
                }
            }
            return most;
        }
    }

    /** BLOCKS in rows, each on two of the row below. */
    private static final class Pile {
        private static final int ROWS = 8;
        private static final int PLACES = 12;

        private final boolean[] lies = new boolean[ROWS * PLACES];
        private final boolean[] stands = new boolean[ROWS * PLACES]; // lies, or is in THE ORDER
        private final int[] turns = new int[ROWS * PLACES];
        private int blocks = 0;

        static boolean isPlace(int row, int place) {
            return within(row, 0, ROWS - 1) && within(place, 0, PLACES - 1 - row);
        }

        private static int at(int row, int place) {
            return row * PLACES + place;
        }

        static boolean isNear(int c, int reach, int row, int place) {
            return Math.abs(place + row / 2 - c) + row <= reach;
        }

        static int allPlaces() {
            int places = 0;
            for (int row = 0; row < ROWS; row++) {
                places += PLACES - row;
            }
            return places;
        }

        int blocks() {
            return blocks;
        }

        boolean add(int row, int place) {
            if (lies[at(row, place)] || !isBorne(lies, row, place)) {
                return false;
            }
            lies[at(row, place)] = true;
            blocks++;
            return true;
        }

        boolean take(int row, int place) {
            if (!lies[at(row, place)] || bears(row, place - 1) || bears(row, place)) {
                return false;
            }
            lies[at(row, place)] = false;
            blocks--;
            return true;
        }

        private boolean bears(int row, int above) {
            return isPlace(row + 1, above) && lies[at(row + 1, above)];
        }

        private static boolean isBorne(boolean[] there, int row, int place) {
            return row == 0 || there[at(row - 1, place)] && there[at(row - 1, place + 1)];
        }

        // Answers how many BLOCKS THE ORDER has.
        int putInTurn(int c, int reach, int m) {
            int next = 0;
            for (int row = 0; row < m; row++) {
                for (int place = 0; place < PLACES - row; place++) {
                    int at = at(row, place);
                    boolean isDue = !lies[at] && isBorne(stands, row, place)
                            && isNear(c, reach, row, place);
                    stands[at] = lies[at] || isDue;
                    turns[at] = isDue ? next : NONE;
                    next += isDue ? 1 : 0;
                }
            }
            return next;
        }

        int turnOf(int row, int place) {
            return turns[at(row, place)];
        }
    }

    /** A STORM by its hours. */
    private static final class Hours {
        private static final int MOST = 48;
        private static final int MOST_WAVE = 200;
        private static final int MOST_LEVEL = 100;
        private static final int MOST_CREST = 100;
        private static final int MOST_DESIGN_SIZE = 39;
        private static final int HARMLESS = 30;

        private final int[] waves = new int[MOST];
        private final int[] levels = new int[MOST];
        private int hours = 0;

        boolean read(Sheets sheets, int sheet, int i, int n) {
            for (int hour = 0; hour < n; hour++) {
                waves[hour] = sheets.item(sheet, i + 2 * hour);
                levels[hour] = sheets.item(sheet, i + 2 * hour + 1);
                if (!within(waves[hour], 0, MOST_WAVE) || !within(levels[hour], 0, MOST_LEVEL)) {
                    return false;
                }
            }
            hours = n;
            return true;
        }

        int harm(int blockSize, int slope) {
            int harm = 0;
            for (int hour = 0; hour < hours; hour++) {
                int above = waves[hour] * 100 / (blockSize * slope + 10) - HARMLESS;
                if (above > 0) {
                    harm += above * above / 10;
                }
            }
            return harm;
        }

        int over(int crest) {
            int over = 0;
            for (int hour = 0; hour < hours; hour++) {
                int above = waves[hour] * 2 - 10 * (crest - levels[hour]);
                if (above > 0) {
                    over += above * above / 100;
                }
            }
            return over;
        }

        int leastCrest(int over) {
            for (int crest = 1; crest <= MOST_CREST; crest++) {
                if (over(crest) <= over) {
                    return crest;
                }
            }
            return NONE;
        }

        int leastBlockSize(int harm, int slope) {
            for (int size = 1; size <= MOST_DESIGN_SIZE; size++) {
                if (harm(size, slope) <= harm) {
                    return size;
                }
            }
            return NONE;
        }
    }

    /** Two SURVEYS held to one another. */
    private static final class Surveys {
        private static final int MOST_PLACES = MOST_SIDE * MOST_SIDE;

        private final boolean[] isLost = new boolean[MOST_PLACES];
        private final int[] patch = new int[MOST_PLACES];
        private int filled = 0;
        private int lost = 0;
        private int heaped = 0;
        private int patches = 0;
        private int largest = 0;

        int result(int what) {
            switch (what) {
                case 0:
                    return lost;
                case 1:
                    return heaped;
                case 2:
                    return patches;
                default:
                    return largest;
            }
        }

        void compare(Sheets sheets, int earlier, int later, int n, int s) {
            lost = 0;
            heaped = 0;
            for (int at = 0; at < n; at++) {
                // ITEMS may be as far apart as no int can tell.
                long rise = (long) sheets.item(later, at) - sheets.item(earlier, at);
                isLost[at] = rise <= -s;
                lost += isLost[at] ? 1 : 0;
                heaped += rise >= s ? 1 : 0;
            }
        }

        void gather(int w, int h) {
            patches = 0;
            largest = 0;
            for (int at = 0; at < w * h; at++) {
                filled = 0;
                join(at);
                spread(w, h);
                if (filled > 0) {
                    patches++;
                    largest = Math.max(largest, filled);
                }
            }
        }

        private void spread(int w, int h) {
            for (int next = 0; next < filled && next < MOST_PLACES; next++) {
                int at = patch[next];
                int x = at % w;
                int y = at / w;
                if (x > 0) {
                    join(at - 1);
                }
                if (x < w - 1) {
                    join(at + 1);
                }
                if (y > 0) {
                    join(at - w);
                }
                if (y < h - 1) {
                    join(at + w);
                }
            }
        }

        // A place is LOST no more once it has joined: so each joins once, and patch never overflows.
        private void join(int at) {
            if (isLost[at] && filled < MOST_PLACES) {
                isLost[at] = false;
                patch[filled] = at;
                filled++;
            }
        }
    }

    /** Waves in a HARBOUR, by images of its mouth. */
    private static final class Harbour {
        private static final int MOST_HARBOUR = 50;
        private static final int MOST_SIZE = 1000000;

        static boolean isOne(int w, int h, int b) {
            return within(w, 1, MOST_HARBOUR) && within(h, 1, MOST_HARBOUR) && within(b, 0, 10);
        }

        static long comesTo(int w, int h, int b, int size, int k, int x, int y) {
            long sum = 0;
            for (int i = -k; i <= k; i++) {
                for (int j = -k; j <= k; j++) {
                    int far = Math.abs(x - 2 * i * w) + Math.abs(y - 2 * j * h);
                    sum += bounced(size, b, 2 * Math.abs(i) + 2 * Math.abs(j)) / (1 + far);
                }
            }
            return sum;
        }

        private static int bounced(int size, int b, int times) {
            int left = size;
            for (int bounce = 0; bounce < times; bounce++) {
                left = left * b / 10;
            }
            return left;
        }
    }

    /**
     * ASKS of LAYERS. The KIND stays as it is while an ask goes on, so the BODY of an ask within
     * another is known from the BODY around it: no BODY has to ask round in a ring.
     */
    private static final class Asks {
        private static final int MOST_TRACED = 16;

        private final int[] trace = new int[MOST_TRACED];
        private int traced = 0;

        void forget() {
            traced = 0;
        }

        int traced(int i) {
            return within(i, 0, traced - 1) ? trace[i] : NONE;
        }

        private void begin(int body) {
            if (traced < MOST_TRACED) {
                trace[traced] = body;
                traced++;
            }
        }

        int worth(Wall wall, int layer) {
            switch (wall.kindOf(layer)) {
                case ARMOUR:
                    return armourWorth(wall, layer);
                case COVER:
                    return coverWorth(wall, layer);
                case LOOSE:
                    return looseWorth(wall, layer);
                default:
                    return lentWorth(wall, layer);
            }
        }

        int mark(Wall wall, int layer) {
            switch (wall.kindOf(layer)) {
                case ARMOUR:
                    return armourMark(wall, layer);
                case COVER:
                    return coverMark(wall, layer);
                case UNDER:
                    return underMark(wall, layer);
                default:
                    return lentMark(wall, layer);
            }
        }

        private int lentWorth(Wall wall, int layer) {
            begin(10);
            return wall.thickOf(layer);
        }

        private int coverWorth(Wall wall, int layer) {
            begin(11);
            return lentWorth(wall, layer) + wall.measure(SLOPE);
        }

        private int armourWorth(Wall wall, int layer) {
            begin(12);
            return coverWorth(wall, layer) + armourMark(wall, layer);
        }

        private int looseWorth(Wall wall, int layer) {
            begin(13);
            return lentWorth(wall, layer) - lentMark(wall, layer);
        }

        private int lentMark(Wall wall, int layer) {
            begin(20);
            return wall.weightOf(layer);
        }

        private int coverMark(Wall wall, int layer) {
            begin(21);
            return lentMark(wall, layer) / 10;
        }

        private int armourMark(Wall wall, int layer) {
            begin(22);
            return coverMark(wall, layer) + 1000;
        }

        private int underMark(Wall wall, int layer) {
            begin(23);
            return lentMark(wall, layer) + lentWorth(wall, layer);
        }
    }
}
