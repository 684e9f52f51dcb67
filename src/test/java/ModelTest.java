import java.util.Random;

/** Random runs of calls, held to the Model call by call; and SHARED held to all ways there are. */
public final class ModelTest {
    private static final int RUNS = 6000;
    private static final int CALLS = 512;
    private static final int MOST_AT_ONCE = 140; // two SURVEYS of 30 places, all rows, one call more
    private static final int[] EDGES = {Integer.MIN_VALUE, -1000001, -1000000, -1, 0, 1, 2, 3, 4, 5, 6,
        7, 8, 9, 10, 11, 12, 13, 15, 16, 20, 21, 30, 31, 48, 49, 50, 51, 60, 61, 99, 100, 101, 127, 128,
        200, 201, 255, 256, 999, 1000, 1001, 32767, 32768, 59319, 60000, 60001, 65535, 1000000, 1000001,
        Integer.MAX_VALUE - 1, Integer.MAX_VALUE};
    private static final String[] NAMES = {"sheet", "set", "copy", "drop", "wall", "layer", "relay",
        "told", "wide", "volume", "shared", "lay", "lift", "reaches", "order", "planned", "storm",
        "design", "survey", "wave", "calm", "kind", "as", "ask", "trace", "count", "status"};

    private final Check check;
    private final Random random;
    private final StoneWorks works = new StoneWorks();
    private final Model model = new Model();
    private final StringBuilder told = new StringBuilder();
    private int calls = 0;

    private ModelTest(Check check, long seed) {
        this.check = check;
        this.random = new Random(seed);
    }

    public static void main(String[] args) {
        Check check = new Check("ModelTest");
        for (int run = 0; run < RUNS && !check.failed(); run++) {
            new ModelTest(check, run).run();
        }
        Random random = new Random(7);
        for (int n = 0; n < 400 && !check.failed(); n++) {
            checkAllWays(check, random);
        }
        check.finish();
    }

    private void run() {
        while (calls < CALLS - MOST_AT_ONCE && !check.failed()) {
            if (random.nextInt(12) == 0) {
                fillSheet();
            }
            if (random.nextInt(60) == 0) {
                buildRows(upTo(8));
            }
            String name = NAMES[random.nextInt(NAMES.length)];
            call(name, arguments(name));
        }
    }

    private void call(String name, int... a) {
        calls++;
        told.append(name).append(java.util.Arrays.toString(a)).append('\n');
        long due = model.call(name, a);
        long got = Calls.answer(works, name, a);
        if (got != due) {
            System.out.println(told);
        }
        check.due(name, got, due);
    }

    private int upTo(int most) {
        return random.nextInt(most + 1);
    }

    /** A number that mostly fits, at times one just beside, at times any edge. */
    private int fit(int least, int most) {
        int dice = random.nextInt(60);
        if (dice == 0) {
            return EDGES[random.nextInt(EDGES.length)];
        }
        if (dice == 1) {
            return random.nextBoolean() ? least - 1 : most + 1;
        }
        if (dice < 8) {
            return random.nextBoolean() ? least : most;
        }
        return least + random.nextInt(most - least + 1);
    }

    private int sheetNumber() {
        return random.nextInt(10) == 0 ? fit(0, 7) : fit(0, 2);
    }

    private int from() {
        return random.nextInt(3) == 0 ? fit(0, 100) : fit(0, 3);
    }

    private int weight() {
        return random.nextBoolean() ? fit(1, 60000) : fit(1, 200) * (random.nextBoolean() ? 1 : 15);
    }

    private int[] arguments(String name) {
        return switch (name) {
            case "sheet" -> new int[] {sheetNumber(), fit(0, 2), fit(0, 100)};
            case "set" -> new int[] {sheetNumber(), fit(0, 99), random.nextInt() >> random.nextInt(32)};
            case "copy" -> new int[] {sheetNumber(), from(), sheetNumber(), from(), fit(0, 100)};
            case "drop" -> new int[] {random.nextInt(4) == 0 ? sheetNumber() : fit(3, 7)};
            case "wall" -> wallArguments();
            case "layer" -> new int[] {fit(1, 10), weight()};
            case "relay" -> new int[] {fit(0, 5), fit(1, 10), weight()};
            case "told" -> new int[] {fit(0, 5), fit(0, 7)};
            case "wide" -> new int[] {fit(0, 6), fit(0, 40)};
            case "volume" -> new int[] {random.nextInt(5) == 0 ? Model.NONE : fit(0, 6)};
            case "shared" -> new int[] {sheetNumber(), from(), sortOrNone(), fit(0, 2)};
            case "lay", "lift" -> new int[] {fit(0, upTo(7)), fit(0, 11)};
            case "reaches" -> new int[] {fit(0, 11), fit(0, 30), fit(0, 7), fit(0, 11)};
            case "order" -> new int[] {fit(0, 11), fit(0, 30), fit(1, 8)};
            case "planned" -> new int[] {fit(0, 11), fit(0, 30), fit(1, 8), sheetNumber(), from(),
                fit(1, 20), fit(0, upTo(7)), fit(0, 8)};
            case "storm" -> new int[] {sheetNumber(), from(), fit(1, 48), fit(0, 1)};
            case "design" -> new int[] {sheetNumber(), from(), fit(1, 48), bound(), bound(), fit(0, 2)};
            case "survey" -> new int[] {sheetNumber(), sheetNumber(), fit(1, 10), fit(1, 10),
                random.nextBoolean() ? fit(1, 1000) : fit(1, 10), fit(0, 3)};
            case "wave" -> waveArguments();
            case "calm" -> new int[] {fit(1, 50), fit(1, 50), fit(0, 10), sheetNumber(), from(), fit(1, 50)};
            case "kind" -> new int[] {fit(0, 5)};
            case "as" -> new int[] {fit(0, 5), fit(0, 4)};
            case "ask" -> new int[] {fit(0, 5), fit(0, 1)};
            case "trace" -> new int[] {fit(0, 15)};
            case "count" -> new int[] {fit(0, 5)};
            default -> new int[0];
        };
    }

    private int sortOrNone() {
        return random.nextInt(4) == 0 ? Model.NONE : fit(0, 3);
    }

    private int bound() {
        return fit(0, new int[] {10, 1000, 100000, 1000000}[random.nextInt(4)]);
    }

    private int[] wallArguments() {
        int what = fit(0, 4);
        int[] most = {100, 50, 60, 1000, 30};
        return new int[] {what, fit(1, what >= 0 && what < 5 ? most[what] : 30)};
    }

    private int[] waveArguments() {
        int w = fit(1, 50);
        int h = fit(1, 50);
        return new int[] {w, h, fit(0, 10), fit(1, 1000000), fit(0, 4),
            fit(0, Math.max(1, Math.min(w, 50))), fit(0, Math.max(1, Math.min(h, 50)))};
    }

    /** ITEMS that some call can take: else nearly all answers were BAD. */
    private void fillSheet() {
        int sheet = upTo(2);
        switch (random.nextInt(6)) {
            case 0 -> fillQuarry(sheet);
            case 1 -> fillWith(sheet, 2 + upTo(24), 20, 20);
            case 2 -> fillWith(sheet, 2 + 2 * upTo(20), 200, 100);
            case 3 -> fillHarbour(sheet);
            case 4 -> fillSurveys(sheet, upTo(2));
            default -> fillWith(sheet, 2 + upTo(48), 3, 3);
        }
    }

    /** Places of one HARBOUR, which are at its far walls at times, or one beyond. */
    private void fillHarbour(int sheet) {
        int w = 1 + upTo(49);
        int h = 1 + upTo(49);
        int n = 1 + upTo(9);
        fillWith(sheet, 2 * n, w, h);
        call("calm", w, h, fit(0, 10), sheet, 0, n);
        call("calm", w, h, fit(0, 10), sheet, fit(0, n), fit(1, n));
        call("status");
    }

    /** Two SURVEYS close to one another, but for places as far apart as ITEMS can be. */
    private void fillSurveys(int a, int b) {
        int w = 1 + upTo(5);
        int h = 1 + upTo(4);
        int s = fit(1, 3);
        fillWith(a, w * h, 4, 4);
        fillWith(b, w * h, 4, 4);
        call("set", random.nextBoolean() ? a : b, upTo(w * h), EDGES[random.nextInt(EDGES.length)]);
        for (int what = 0; what < 4; what++) {
            call("survey", a, b, w, h, s, what);
        }
    }

    /** Random laying alone would hardly come to the upper rows. */
    private void buildRows(int rows) {
        for (int row = 0; row < rows; row++) {
            for (int place = 0; place < 12 - row; place++) {
                call("lay", row, place);
            }
        }
    }

    private void fillWith(int sheet, int n, int evenMost, int oddMost) {
        call("sheet", sheet, 1 + upTo(1), n);
        for (int i = 0; i < n; i++) {
            call("set", sheet, i, fit(0, i % 2 == 0 ? evenMost : oddMost));
        }
    }

    private void fillQuarry(int sheet) {
        int shift = upTo(2);
        call("sheet", sheet, upTo(2), 10 + shift);
        int[] items = quarryItems(random, 1 + upTo(99));
        if (random.nextInt(3) == 0) {
            spoil(items);
        }
        for (int at = 0; at < 10; at++) {
            call("set", sheet, at + shift, items[at]);
        }
        for (int pair = 0; pair < 12; pair++) {
            call("shared", sheet, shift, pair / 3, pair % 3);
        }
        call("shared", sheet, shift, Model.NONE, 0);
    }

    /** A quarry just beside what is told, or one that is as told once more. */
    private void spoil(int[] items) {
        int more = random.nextBoolean() ? 1 : -1;
        switch (random.nextInt(4)) {
            case 0 -> items[upTo(3)] += more;
            case 1 -> items[4 + upTo(2)] = fit(0, 100);
            case 2 -> items[7 + upTo(2)] = more < 0 ? -1 : 16;
            default -> {
                int moved = items[0] + upTo(1);
                items[0] -= moved;
                items[1] += moved;
            }
        }
    }

    private static int[] quarryItems(Random random, int mostNeed) {
        int[] items = new int[10];
        int[] ends = {random.nextInt(101), random.nextInt(101), random.nextInt(101)};
        java.util.Arrays.sort(ends);
        items[0] = ends[0];
        items[1] = ends[1] - ends[0];
        items[2] = ends[2] - ends[1];
        items[3] = 100 - ends[2];
        for (int k = 0; k < 3; k++) {
            items[4 + k] = random.nextInt(mostNeed + 1);
            items[7 + k] = random.nextInt(16);
        }
        return items;
    }

    /** One large SORT and three small ones, small NEEDS: so few ways that all can be walked. */
    private static void checkAllWays(Check check, Random random) {
        int[] items = quarryItems(random, 3);
        int large = random.nextInt(4);
        int rest = 100;
        for (int sort = 0; sort < 4; sort++) {
            items[sort] = sort == large ? 0 : random.nextInt(4);
            rest -= items[sort];
        }
        items[large] = rest;
        int[] best = new int[13];
        best[0] = -1;
        walk(items, new int[13], 0, best);
        StoneWorks x = new StoneWorks();
        x.sheet(0, 0, 10);
        for (int at = 0; at < 10; at++) {
            x.set(0, at, items[at]);
        }
        String what = "all ways of " + java.util.Arrays.toString(items);
        check.due(what + ", waste", x.shared(0, 0, StoneWorks.NONE, 0), 100 - best[0]);
        for (int pair = 0; pair < 12; pair++) {
            check.due(what + ", " + pair, x.shared(0, 0, pair / 3, pair % 3), best[1 + pair]);
        }
    }

    /** A way is what is given in all, then each part by SORTS and LAYERS: the greatest is the best. */
    private static void walk(int[] left, int[] way, int pair, int[] best) {
        if (pair == 12) {
            if (java.util.Arrays.compare(way, best) > 0) {
                System.arraycopy(way, 0, best, 0, 13);
            }
            return;
        }
        int sort = pair / 3;
        int k = pair % 3;
        int most = (left[7 + k] >> sort & 1) == 1 ? Math.min(left[sort], left[4 + k]) : 0;
        for (int part = 0; part <= most; part++) {
            give(left, way, pair, part);
            walk(left, way, pair + 1, best);
            give(left, way, pair, -part);
        }
    }

    private static void give(int[] left, int[] way, int pair, int part) {
        left[pair / 3] -= part;
        left[4 + pair % 3] -= part;
        way[0] += part;
        way[1 + pair] += part;
    }
}
