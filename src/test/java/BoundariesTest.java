import java.io.IOException;
import java.util.function.Supplier;

/** Promises 1 to 28 of the document, sentence by sentence: what is too small, too large, empty, full. */
public final class BoundariesTest extends BySentence {
    private BoundariesTest() throws IOException {
        super("BoundariesTest");
    }

    public static void main(String[] args) throws IOException {
        BoundariesTest test = new BoundariesTest();
        test.sheetPromises();
        test.wallPromises();
        test.quarryPromise();
        test.layingPromises();
        test.stormPromises();
        test.surveyPromises();
        test.askedPromises();
        test.finish("Promise .*");
    }

    /** The call fits a SHEET of so many ITEMS from i on, and no i beside; argument at is i. */
    private void places(Supplier<StoneWorks> made, int at, int least, int most, String name, int... a) {
        for (int i : new int[] {least, most}) {
            a[at] = i;
            long got = Calls.answer(made.get(), name, a);
            due(name + " from " + i + " on is not PLACE", got != PLACE && got != NULL);
        }
        for (int i : new int[] {least - 1, most + 1, MIN, MAX, MAX - 8}) {
            a[at] = i;
            due(name + " from " + i + " on", Calls.answer(made.get(), name, a), PLACE);
        }
    }

    // ---- sheets

    private void sheetPromises() {
        newObject();
        sheet();
        set();
        copy();
        drop();
    }

    private void newObject() {
        in("Promise 1");
        says("All as at first; no LAYERS, no BLOCKS.");
        StoneWorks x = new StoneWorks();
        due("status", x.status(), 0);
        due("THE TRACE", x.trace(0), NONE);
        int[] counts = {0, 0, 0, 0, 0, 68};
        int[] measures = {20, 6, 15, 10, 15};
        for (int what = 0; what < 6; what++) {
            due("count " + what, x.count(what), counts[what]);
        }
        for (int what = 0; what < 5; what++) {
            due("told " + what, x.told(0, what), measures[what]);
        }
        due("LAYER 0", x.kind(0), BAD);
        due("a BLOCK", x.lift(0, 0), STATE);
        due("SHEET 0", x.drop(0), NULL);
        StoneWorks used = withRows(8);
        used.layer(1, 1);
        used.wall(0, 1);
        used.sheet(0, 0, 1);
        due("another one is as at first, too", new StoneWorks().count(0) + new StoneWorks().count(1)
                + new StoneWorks().count(4) + new StoneWorks().told(0, 0), 20);
    }

    private void sheet() {
        in("Promise 2");
        says("A SHEET of a LANE with n ITEMS, in place of what is there: n.");
        StoneWorks x = new StoneWorks();
        due("none", x.sheet(0, 0, 0), 0);
        due("one", x.sheet(0, 1, 1), 1);
        due("100", x.sheet(0, 2, 100), 100);
        due("it is one SHEET", x.count(0), 1);
        fill(x, 0, 2, 1, 2, 3);
        x.sheet(0, 2, 3);
        due("ITEMS are 0 again", hasItems(x, 0, 0, 0, 0));
        fill(x, 0, 2, repeated(9, 100));
        x.sheet(0, 2, 1);
        x.sheet(0, 2, 100);
        due("those that were cut off, too", hasItems(x, 0, new int[100]));
        x.sheet(0, 0, 1);
        due("of the new LANE", x.set(0, 0, 256), 0);
        fill(x, 1, 2, repeated(5, 100));
        x.sheet(0, 2, 100);
        due("the next SHEET stays", hasItems(x, 1, repeated(5, 100)));
        says("BAD: SHEET, LANE, n above 100;");
        bounds(StoneWorks::new, 0, 0, 7, "sheet", 0, 0, 1);
        bounds(StoneWorks::new, 1, 0, 2, "sheet", 0, 0, 1);
        due("n 100", new StoneWorks().sheet(7, 2, 100), 100);
        due("n 101", new StoneWorks().sheet(7, 2, 101), BAD);
        due("n most", new StoneWorks().sheet(7, 2, MAX), BAD);
        says("SIZE.");
        due("n -1", new StoneWorks().sheet(0, 0, -1), SIZE);
        due("n least", new StoneWorks().sheet(0, 0, MIN), SIZE);
        due("BAD SHEET first", new StoneWorks().sheet(8, 0, -1), BAD);
        due("BAD LANE first", new StoneWorks().sheet(0, 3, -1), BAD);
    }

    private void set() {
        in("Promise 3");
        says("ITEM i becomes v, its lowest bits, as many as the LANE has: what it is then.");
        int[] v = {0, 127, 128, 255, 256, -128, -129, 32767, 32768, 65535, 65536, -32769, MIN, MAX};
        StoneWorks x = withItems(0, 0);
        fill(x, 1, 1, 0);
        fill(x, 2, 2, 0);
        for (int each : v) {
            due("byte " + each, x.set(0, 0, each), (byte) each);
            due("it is that byte", hasItems(x, 0, (byte) each));
            due("short " + each, x.set(1, 0, each), (short) each);
            due("it is that short", hasItems(x, 1, (short) each));
            due("int " + each, x.set(2, 0, each), each);
            due("it is that int", hasItems(x, 2, each));
        }
        x = withItems(2, 1, 2, 3);
        x.set(0, 1, 9);
        due("those beside stay", hasItems(x, 0, 1, 9, 3));
        says("BAD: SHEET;");
        bounds(StoneWorks::new, 0, 0, 7, "set", 0, 0, 1);
        says("NULL;");
        due("missing", new StoneWorks().set(7, 0, 1), NULL);
        due("ahead of PLACE", new StoneWorks().set(7, -1, 1), NULL);
        says("PLACE.");
        places(() -> withItems(0, 1, 2, 3), 1, 0, 2, "set", 0, 0, 1);
        places(() -> withItems(0, new int[100]), 1, 0, 99, "set", 0, 0, 1);
        due("0 of none", withItems(0).set(0, 0, 1), PLACE);
    }

    private void copy() {
        in("Promise 4");
        says("n ITEMS of a from i on come to b from j on, as they were ahead: n.");
        StoneWorks x = withItems(2, 1, 2, 3, 4, 5);
        due("onward in itself", x.copy(0, 0, 0, 1, 4), 4);
        due("as they were ahead", hasItems(x, 0, 1, 1, 2, 3, 4));
        x = withItems(2, 1, 2, 3, 4, 5);
        due("back in itself", x.copy(0, 1, 0, 0, 4), 4);
        due("as they were ahead, back", hasItems(x, 0, 2, 3, 4, 5, 5));
        due("onto themselves", x.copy(0, 0, 0, 0, 5), 5);
        due("none", x.copy(0, 0, 0, 3, 0), 0);
        due("they stay", hasItems(x, 0, 2, 3, 4, 5, 5));
        x = withItems(2, repeated(7, 100));
        x.sheet(1, 2, 100);
        due("100", x.copy(0, 0, 1, 0, 100), 100);
        due("all came", hasItems(x, 1, repeated(7, 100)));
        due("all stay", hasItems(x, 0, repeated(7, 100)));
        fill(x, 5, 2, 1, 2, 3);
        fill(x, 6, 2, 4, 5, 6);
        due("from SHEET 6 to 5", x.copy(6, 1, 5, 0, 2), 2);
        due("they came to 5", hasItems(x, 5, 5, 6, 3));
        due("they stay in 6", hasItems(x, 6, 4, 5, 6));
        says("BAD: SHEETS;");
        bounds(StoneWorks::new, 0, 0, 7, "copy", 0, 0, 0, 0, 1);
        bounds(StoneWorks::new, 2, 0, 7, "copy", 0, 0, 0, 0, 1);
        says("NULL;");
        x = withItems(0, 1);
        due("a", x.copy(1, 0, 0, 0, 1), NULL);
        due("b", x.copy(0, 0, 1, 0, 1), NULL);
        due("both", x.copy(1, 0, 1, 0, 1), NULL);
        due("ahead of PLACE", x.copy(0, 9, 1, 0, -1), NULL);
        says("STORE;");
        fill(x, 1, 1, 1);
        fill(x, 2, 2, 1);
        due("bytes to shorts", x.copy(0, 0, 1, 0, 1), STORE);
        due("shorts to bytes", x.copy(1, 0, 0, 0, 1), STORE);
        due("shorts to ints", x.copy(1, 0, 2, 0, 1), STORE);
        due("none of them", x.copy(0, 0, 1, 0, 0), STORE);
        due("ahead of PLACE", x.copy(0, 9, 1, 0, -1), STORE);
        copyPlaces();
    }

    private static StoneWorks fiveAndThree() {
        StoneWorks x = withItems(0, 1, 2, 3, 4, 5);
        x.sheet(1, 0, 3);
        return x;
    }

    private void copyPlaces() {
        says("PLACE (i, j, n below 0, or beyond an end).");
        places(BoundariesTest::fiveAndThree, 1, 0, 3, "copy", 0, 0, 1, 1, 2);
        places(BoundariesTest::fiveAndThree, 3, 0, 1, "copy", 0, 0, 1, 0, 2);
        places(BoundariesTest::fiveAndThree, 4, 0, 3, "copy", 0, 0, 1, 0, 0);
        places(BoundariesTest::fiveAndThree, 4, 0, 3, "copy", 1, 0, 0, 0, 0);
        due("none from the ends on", fiveAndThree().copy(0, 5, 1, 3, 0), 0);
        due("none from beyond a's end on", fiveAndThree().copy(0, 6, 1, 3, 0), PLACE);
        due("none from beyond b's end on", fiveAndThree().copy(0, 5, 1, 4, 0), PLACE);
        due("none from below 0 on", fiveAndThree().copy(0, -1, 1, 0, 0), PLACE);
        due("i and n wrap around", fiveAndThree().copy(0, MAX, 1, 0, MAX), PLACE);
        due("j and n wrap around", fiveAndThree().copy(0, 0, 1, MAX, MAX), PLACE);
        due("i and n are 0 together", fiveAndThree().copy(0, MIN, 1, MIN, MIN), PLACE);
        due("none of empty ones", withItems(0).copy(0, 0, 0, 0, 0), 0);
        due("one of empty ones", withItems(0).copy(0, 0, 0, 0, 1), PLACE);
    }

    private void drop() {
        in("Promise 5");
        says("A SHEET is missing from now on: how many ITEMS it had.");
        StoneWorks x = withItems(0, new int[100]);
        fill(x, 7, 1);
        due("100", x.drop(0), 100);
        due("none", x.drop(7), 0);
        due("it is missing", x.set(0, 0, 1), NULL);
        due("none is there", x.count(0), 0);
        due("it may come again", x.sheet(0, 2, 4), 4);
        due("with that many", x.drop(0), 4);
        says("BAD;");
        bounds(StoneWorks::new, 0, 0, 7, "drop", 0);
        says("NULL.");
        due("missing at first", new StoneWorks().drop(7), NULL);
        due("dropped", x.drop(0), NULL);
    }

    // ---- the wall

    private void wallPromises() {
        wall();
        layers();
        told();
        wide();
        volume();
    }

    private void wall() {
        in("Promise 6");
        says("CREST (what = 0), TOP (1), SLOPE (2), LENGTH (3), FILTER (4): what it was.");
        StoneWorks x = new StoneWorks();
        int[] first = {20, 6, 15, 10, 15};
        for (int what = 0; what < 5; what++) {
            due("what it was, " + what, x.wall(what, 9), first[what]);
            due("again, " + what, x.wall(what, 8), 9);
            due("those beyond stay, " + what, what == 4 || x.told(0, what + 1) == first[what + 1]);
        }
        says("BAD.");
        bounds(StoneWorks::new, 0, 0, 4, "wall", 0, 9);
        int[] least = {1, 1, 1, 1, 2};
        int[] most = {100, 50, 60, 1000, 30};
        for (int what = 0; what < 5; what++) {
            bounds(StoneWorks::new, 1, least[what], most[what], "wall", what, 9);
        }
    }

    private void layers() {
        in("Promise 7");
        says("A LAYER comes within the others: its number.");
        StoneWorks x = new StoneWorks();
        for (int layer = 0; layer < 6; layer++) {
            due("LAYER " + layer, x.layer(layer + 1, 100 + layer), layer);
        }
        for (int layer = 0; layer < 6; layer++) {
            due("WEIGHT of " + layer, x.told(layer, 6), 100 + layer);
        }
        says("BAD;");
        bounds(StoneWorks::new, 0, 1, 10, "layer", 1, 1);
        bounds(StoneWorks::new, 1, 1, 60000, "layer", 1, 1);
        bounds(() -> withLayers(1, 1, 1, 1, 1, 1), 0, 1, 10, "layer", 1, 1);
        says("FULL: 6.");
        due("a sixth", withLayers(1, 1, 1, 1, 1).layer(10, 60000), 5);
        due("a seventh", withLayers(1, 1, 1, 1, 1, 1).layer(10, 60000), FULL);
        in("Promise 8");
        says("THICK and WEIGHT of a LAYER: 1.");
        due("the least", x.relay(0, 1, 1), 1);
        due("the most", x.relay(5, 10, 60000), 1);
        due("THICK of 0", x.told(0, 5), 1);
        due("WEIGHT of 0", x.told(0, 6), 1);
        due("THICK of 5", x.told(5, 5), 10);
        due("WEIGHT of 5", x.told(5, 6), 60000);
        due("THICK of 1 stays", x.told(1, 5), 2);
        due("WEIGHT of 4 stays", x.told(4, 6), 104);
        says("BAD.");
        due("without LAYERS", new StoneWorks().relay(0, 1, 1), BAD);
        bounds(() -> withLayers(1), 0, 0, 0, "relay", 0, 1, 1);
        bounds(() -> withLayers(1, 1, 1, 1, 1, 1), 0, 0, 5, "relay", 0, 1, 1);
        bounds(() -> withLayers(1), 1, 1, 10, "relay", 0, 1, 1);
        bounds(() -> withLayers(1), 2, 1, 60000, "relay", 0, 1, 1);
    }

    private void told() {
        in("Promise 9");
        says("Of the wall: CREST to FILTER (0 to 4);");
        StoneWorks x = withWall(1, 2, 3, 4);
        x.wall(4, 5);
        for (int what = 0; what < 5; what++) {
            due("what " + what, x.told(0, what), what + 1);
            due("no LAYER is needed, " + what, x.told(MIN, what), what + 1);
            due("none is looked at, " + what, x.told(MAX, what), what + 1);
        }
        says("of a LAYER: THICK (5), WEIGHT (6),");
        x.layer(10, 60000);
        due("THICK", x.told(0, 5), 10);
        due("WEIGHT", x.told(0, 6), 60000);
        says("whether it HOLDS what is within (7: 1, 0; the innermost one 1).");
        due("the only one", withLayers(1).told(0, 7), 1);
        due("the innermost one", withLayers(1, 9).told(1, 7), 1);
        due("it holds", withLayers(2, 1).told(0, 7), 1);
        due("15 times", withLayers(15, 1).told(0, 7), 1);
        due("16 times", withLayers(16, 1).told(0, 7), 0);
        due("as heavy", withLayers(1, 1).told(0, 7), 0);
        says("BAD: what;");
        bounds(() -> withLayers(1), 1, 0, 7, "told", 0, 0);
        says("the LAYER (of 5 to 7).");
        for (int what = 5; what <= 7; what++) {
            bounds(() -> withLayers(1, 1), 0, 0, 1, "told", 0, what);
            due("without LAYERS, " + what, new StoneWorks().told(0, what), BAD);
        }
    }

    private void wide() {
        in("Promise 10");
        says("WIDE(k, h), k 0 to how many LAYERS there are.");
        StoneWorks x = withLayers(1, 1);
        due("k 0", x.wide(0, 0), 66);
        due("k 1", x.wide(1, 0), 61);
        due("k 2", x.wide(2, 0), 56);
        due("k 3", x.wide(3, 0), BAD);
        due("k 6", withLayers(1, 1, 1, 1, 1, 1).wide(6, 0), 36);
        says("BAD: k, h.");
        bounds(StoneWorks::new, 0, 0, 0, "wide", 0, 0);
        bounds(() -> withLayers(1, 1), 0, 0, 2, "wide", 0, 0);
        bounds(() -> withLayers(1, 1, 1, 1, 1, 1), 0, 0, 6, "wide", 0, 0);
        bounds(() -> withLayers(1, 1), 1, 0, 19, "wide", 2, 0);
        bounds(() -> withWall(1, 1, 1, 1), 1, 0, 0, "wide", 0, 0);
        bounds(() -> withWall(100, 1, 1, 1), 1, 0, 99, "wide", 0, 0);
    }

    private void volume() {
        in("Promise 11");
        says("VOLUME of a LAYER;");
        StoneWorks x = withWall(3, 4, 10, 7);
        x.layer(2, 1);
        due("LAYER 0", x.volume(0), 7 * (8 + 8 + 6));
        says("of the CORE (layer = how many there are);");
        due("behind one", x.volume(1), 7 * 2);
        due("without LAYERS", withWall(3, 4, 10, 7).volume(0), 7 * 24);
        x = withLayers(1, 1, 1, 1, 1, 1);
        due("behind six", x.volume(6), 2340);
        says("of all (NONE).");
        due("one LAYER and the CORE", x.volume(NONE), 7500);
        int sum = 0;
        for (int layer = 0; layer <= 6; layer++) {
            sum += x.volume(layer);
        }
        due("the parts, added", sum, 7500);
        due("without LAYERS", withWall(1, 1, 1, 1).volume(NONE), 1);
        due("the most", withWall(100, 50, 60, 1000).volume(NONE), 65600000);
        says("BAD.");
        bounds(StoneWorks::new, 0, 0, 0, "volume", 0);
        bounds(() -> withLayers(1, 1), 0, 0, 2, "volume", 0);
        bounds(() -> withLayers(1, 1, 1, 1, 1, 1), 0, 0, 6, "volume", 0);
        due("beside NONE", x.volume(NONE + 1), BAD);
        due("beside NONE, below", x.volume(NONE - 1), BAD);
    }

    // ---- the quarry

    private static StoneWorks quarry() {
        return withItems(2, 10, 20, 30, 40, 30, 30, 30, 15, 15, 15);
    }

    private void quarryPromise() {
        in("Promise 12");
        says("SHARED: SORTS yield ITEMS 0 to 3 of 10 ITEMS of a SHEET from i on, LAYERS 0 to 2 NEED 4 to 6, are ALLOWED 7 to 9:");
        int[] items = new int[100];
        System.arraycopy(new int[] {40, 30, 20, 10, 5, 6, 7, 1, 2, 4}, 0, items, 90, 10);
        StoneWorks x = withItems(0, items);
        due("the last ten: SORT 0 to LAYER 0", x.shared(0, 90, 0, 0), 5);
        due("the last ten: SORT 1 to LAYER 1", x.shared(0, 90, 1, 1), 6);
        due("the last ten: SORT 2 to LAYER 2", x.shared(0, 90, 2, 2), 7);
        says("the waste (sort = NONE),");
        due("least", x.shared(0, 90, NONE, 0), 82);
        due("k 2", x.shared(0, 90, NONE, 2), 82);
        says("what SORT s gives to LAYER k.");
        due("none is ALLOWED", x.shared(0, 90, 3, 2), 0);
        due("SORT 3 to LAYER 2", quarry().shared(0, 0, 3, 2), 30);
        says("BAD: SHEET, sort, k;");
        bounds(StoneWorks::new, 0, 0, 7, "shared", 0, 0, 0, 0);
        bounds(StoneWorks::new, 2, 0, 3, "shared", 0, 0, 0, 0);
        bounds(StoneWorks::new, 3, 0, 2, "shared", 0, 0, 0, 0);
        bounds(StoneWorks::new, 3, 0, 2, "shared", 0, 0, NONE, 0);
        due("sort NONE is not BAD", new StoneWorks().shared(0, 0, NONE, 0), NULL);
        due("beside NONE", new StoneWorks().shared(0, 0, NONE + 1, 0), BAD);
        due("beside NONE, below", new StoneWorks().shared(0, 0, NONE - 1, 0), BAD);
        says("NULL;");
        due("ahead of PLACE", new StoneWorks().shared(0, -1, 0, 0), NULL);
        says("PLACE;");
        places(() -> withItems(0, new int[12]), 1, 0, 2, "shared", 0, 0, 0, 0);
        due("9 ITEMS", withItems(0, new int[9]).shared(0, 0, 0, 0), PLACE);
        due("ahead of a BAD ITEM", withItems(0, repeated(-1, 9)).shared(0, 0, 0, 0), PLACE);
        quarryItems();
    }

    private void quarryItems() {
        says("then BAD: an ITEM (SORTS that do not add up to 100, too).");
        due("all fits", quarry().shared(0, 0, NONE, 0), 10);
        for (int at = 0; at < 10; at++) {
            for (int v : new int[] {-1, at < 7 ? 101 : 16, MIN, MAX}) {
                StoneWorks x = quarry();
                x.set(0, at, v);
                due("ITEM " + at + " is " + v, x.shared(0, 0, 0, 0), BAD);
                due("for the waste, too", x.shared(0, 0, NONE, 0), BAD);
            }
            StoneWorks x = quarry();
            x.set(0, at, 0);
            due("ITEM " + at + " is 0", (x.shared(0, 0, 0, 0) == BAD) == at < 4);
        }
        due("99", withItems(0, 99, 0, 0, 0, 1, 1, 1, 1, 1, 1).shared(0, 0, 0, 0), BAD);
        due("100", withItems(0, 100, 0, 0, 0, 1, 1, 1, 1, 1, 1).shared(0, 0, 0, 0), 1);
        due("101", withItems(0, 100, 0, 0, 1, 1, 1, 1, 1, 1, 1).shared(0, 0, 0, 0), BAD);
        due("100 by one above and one below", withItems(0, 101, -1, 0, 0, 1, 1, 1, 1, 1, 1)
                .shared(0, 0, 0, 0), BAD);
        due("100 by a wrap-around", withItems(2, MAX, MAX, 102, 0, 1, 1, 1, 1, 1, 1).shared(0, 0, 0, 0), BAD);
    }

    // ---- laying

    private void layingPromises() {
        lay();
        lift();
        reaches();
        order();
        planned();
    }

    private void lay() {
        in("Promise 13");
        says("A BLOCK is laid: 1.");
        StoneWorks x = new StoneWorks();
        due("the first", x.lay(0, 0), 1);
        due("it lies", x.count(4), 1);
        due("the topmost", withRows(7).lay(7, 4), 1);
        says("BAD: row, place;");
        bounds(StoneWorks::new, 0, 0, 7, "lay", 0, 0);
        for (int row = 0; row <= 7; row++) {
            bounds(StoneWorks::new, 1, 0, 11 - row, "lay", row, 0);
        }
        says("STATE: it can't.");
        due("one is there", x.lay(0, 0), STATE);
        due("on one alone", x.lay(1, 0), STATE);
        due("on nothing", x.lay(7, 4), STATE);
        due("none came", x.count(4), 1);
    }

    private void lift() {
        in("Promise 14");
        says("A BLOCK is lifted: 1.");
        StoneWorks x = withRows(8);
        due("the topmost", x.lift(7, 4), 1);
        due("one less", x.count(4), 67);
        says("BAD;");
        bounds(StoneWorks::new, 0, 0, 7, "lift", 0, 0);
        for (int row = 0; row <= 7; row++) {
            bounds(() -> withRows(8), 1, 0, 11 - row, "lift", row, 0);
        }
        says("STATE: none is there,");
        due("lifted", x.lift(7, 4), STATE);
        due("never laid", new StoneWorks().lift(0, 0), STATE);
        says("or one lies on it.");
        due("on the left of it", x.lift(6, 4), STATE);
        due("on the right of it", x.lift(6, 0), STATE);
        due("none any more", x.lift(6, 5), 1);
        due("none went", x.count(4), 66);
    }

    private void reaches() {
        in("Promise 15");
        says("Whether a crane at c (0 to 11) with a REACH reaches a place: 1, 0.");
        StoneWorks x = new StoneWorks();
        due("from 0", x.reaches(0, 0, 0, 0), 1);
        due("from 11", x.reaches(11, 0, 0, 11), 1);
        due("one off", x.reaches(11, 0, 0, 10), 0);
        due("one up", x.reaches(0, 0, 1, 0), 0);
        due("one up, REACH 1", x.reaches(0, 1, 1, 0), 1);
        says("BAD.");
        bounds(StoneWorks::new, 0, 0, 11, "reaches", 0, 0, 0, 0);
        bounds(StoneWorks::new, 1, 0, 30, "reaches", 0, 0, 0, 0);
        bounds(StoneWorks::new, 2, 0, 7, "reaches", 0, 0, 0, 0);
        for (int row = 0; row <= 7; row++) {
            bounds(StoneWorks::new, 3, 0, 11 - row, "reaches", 0, 0, row, 0);
        }
    }

    private void order() {
        in("Promise 16");
        says("How many BLOCKS THE ORDER of rows 0 to m - 1 (m 1 to 8) by a crane has.");
        due("m 1", new StoneWorks().order(0, 30, 1), 12);
        due("m 8", new StoneWorks().order(0, 30, 8), 68);
        due("none", withRows(8).order(0, 30, 8), 0);
        due("one", withRows(7).order(2, 10, 8) - withRows(7).order(2, 9, 8), 1);
        says("BAD: c, REACH, m.");
        bounds(StoneWorks::new, 0, 0, 11, "order", 0, 0, 1);
        bounds(StoneWorks::new, 1, 0, 30, "order", 0, 0, 1);
        bounds(StoneWorks::new, 2, 1, 8, "order", 0, 0, 1);
    }

    private void planned() {
        in("Promise 17");
        says("THE PLAN by n days, tides being ITEMS of a SHEET from i on: on which day a place is laid;");
        StoneWorks x = withItems(2, new int[100]);
        x.set(0, 99, 1);
        due("the last ITEM", x.planned(0, 0, 1, 0, 99, 1, 0, 0), 0);
        due("the last of 20", x.planned(0, 0, 1, 0, 80, 20, 0, 0), 19);
        says("NONE: on none.");
        due("no tide has any", x.planned(0, 0, 1, 0, 0, 20, 0, 0), NONE);
        due("too few", x.planned(0, 30, 1, 0, 99, 1, 0, 1), NONE);
        due("out of reach", x.planned(0, 0, 1, 0, 99, 1, 0, 1), NONE);
        due("above m", x.planned(0, 30, 1, 0, 99, 1, 1, 0), NONE);
        x.lay(0, 0);
        due("it lies", x.planned(0, 0, 1, 0, 99, 1, 0, 0), NONE);
        says("BAD: c, REACH, m, SHEET, n, row, place;");
        int[] least = {0, 0, 1, 0, 0, 1, 0, 0};
        int[] most = {11, 30, 8, 7, 0, 20, 7, 11};
        for (int at : new int[] {0, 1, 2, 3, 5, 6, 7}) {
            bounds(StoneWorks::new, at, least[at], most[at], "planned", 0, 0, 1, 0, 0, 1, 0, 0);
        }
        for (int row = 1; row <= 7; row++) {
            bounds(StoneWorks::new, 7, 0, 11 - row, "planned", 0, 0, 1, 0, 0, 1, row, 0);
        }
        says("NULL;");
        due("ahead of PLACE", new StoneWorks().planned(0, 0, 1, 7, -1, 1, 0, 0), NULL);
        says("PLACE;");
        places(() -> withItems(0, new int[25]), 4, 0, 5, "planned", 0, 0, 1, 0, 0, 20, 0, 0);
        places(() -> withItems(0, new int[25]), 4, 0, 24, "planned", 0, 0, 1, 0, 0, 1, 0, 0);
        due("ahead of a BAD ITEM", withItems(0, -1).planned(0, 0, 1, 0, 0, 2, 0, 0), PLACE);
        says("then BAD: an ITEM is not 0 to 20.");
        for (int at = 0; at < 3; at++) {
            for (int v : new int[] {-1, 0, 20, 21, MIN, MAX}) {
                x = withItems(2, 1, 1, 1);
                x.set(0, at, v);
                boolean isBad = x.planned(0, 0, 1, 0, 0, 3, 0, 0) == BAD;
                due("ITEM " + at + " is " + v, isBad != (v >= 0 && v <= 20));
            }
        }
        due("one that is no day", withItems(0, 21, 1, 21).planned(0, 0, 1, 0, 1, 1, 0, 0), 0);
        due("one of a later day", withItems(0, 20, 21).planned(0, 0, 1, 0, 0, 2, 0, 0), BAD);
    }

    // ---- storms

    private void stormPromises() {
        storm();
        design();
    }

    private static StoneWorks storms() {
        return withItems(1, new int[100]);
    }

    private void storm() {
        in("Promise 18");
        says("HARM (what = 0), OVER (1) by a STORM of n hours (1 to 48), ITEMS of a SHEET from i on, two each.");
        StoneWorks x = withItems(1, 9, 21, 0, 0, 10, 20);
        due("HARM of one", x.storm(0, 0, 1, 0), 3);
        due("OVER of one", x.storm(0, 0, 1, 1), 28 * 28 / 100);
        due("HARM of three", x.storm(0, 0, 3, 0), 3 + 10);
        due("OVER from 4 on", x.storm(0, 4, 1, 1), 4);
        int[] items = new int[96];
        items[94] = 9;
        items[95] = 21;
        due("HARM of the last of 48", withItems(1, items).storm(0, 0, 48, 0), 3);
        due("OVER of the last of 48", withItems(1, items).storm(0, 0, 48, 1), 7);
        says("BAD: SHEET, n, what;");
        bounds(StoneWorks::new, 0, 0, 7, "storm", 0, 0, 1, 0);
        bounds(StoneWorks::new, 2, 1, 48, "storm", 0, 0, 1, 0);
        bounds(StoneWorks::new, 3, 0, 1, "storm", 0, 0, 1, 0);
        says("NULL;");
        due("ahead of PLACE", new StoneWorks().storm(7, -1, 1, 0), NULL);
        says("PLACE;");
        places(BoundariesTest::storms, 1, 0, 4, "storm", 0, 0, 48, 0);
        places(BoundariesTest::storms, 1, 0, 98, "storm", 0, 0, 1, 0);
        due("half an hour", withItems(1, 0, 0, 0).storm(0, 0, 2, 0), PLACE);
        due("ahead of a BAD ITEM", withItems(1, -1).storm(0, 0, 1, 0), PLACE);
        says("then BAD: an ITEM.");
        hourItems("storm", 0, 0, 2, 0);
        hourItems("storm", 0, 0, 2, 1);
        due("one that is no hour", withItems(1, 201, 9, 21, 201).storm(0, 1, 1, 0), 3);
    }

    /** ITEMS 0 to 3 are two hours. */
    private void hourItems(String name, int... a) {
        for (int at = 0; at < 4; at++) {
            int most = at % 2 == 0 ? 200 : 100;
            for (int v : new int[] {-1, 0, most, most + 1, MIN, MAX}) {
                StoneWorks x = withItems(2, 0, 0, 0, 0);
                x.set(0, at, v);
                boolean isBad = Calls.answer(x, name, a) == BAD;
                due(name + ", ITEM " + at + " is " + v, isBad != (v >= 0 && v <= most));
            }
        }
    }

    private void design() {
        in("Promise 19");
        says("DESIGN for such a STORM, HARM and OVER no more than told (0 to 1000000 each):");
        StoneWorks x = withItems(1, 9, 0);
        due("HARM 3 is told", x.design(0, 0, 1, 3, 1000000, 1), 1);
        due("HARM 2 is told", x.design(0, 0, 1, 2, 1000000, 1), 8);
        due("OVER 0 is told", x.design(0, 0, 1, 1000000, 0, 0), 1);
        x = withItems(1, 200, 0);
        due("OVER 1 is told", x.design(0, 0, 1, 1000000, 1, 0), 39);
        due("OVER 0 is told: 9 above is none", x.design(0, 0, 1, 1000000, 0, 0), 40);
        x = withItems(1, 200, 100);
        due("all is told", x.design(0, 0, 1, 1000000, 1000000, 2), 15);
        says("CREST (what = 0), WEIGHT (1), COST (2);");
        x = withItems(1, 9, 10);
        due("CREST", x.design(0, 0, 1, 2, 0, 0), 11);
        due("WEIGHT", x.design(0, 0, 1, 2, 0, 1), 8);
        due("COST", x.design(0, 0, 1, 2, 0, 2), 11 * 11 * 15);
        noDesign();
        says("BAD: SHEET, n, HARM, OVER, what;");
        bounds(StoneWorks::new, 0, 0, 7, "design", 0, 0, 1, 0, 0, 0);
        bounds(StoneWorks::new, 2, 1, 48, "design", 0, 0, 1, 0, 0, 0);
        bounds(StoneWorks::new, 3, 0, 1000000, "design", 0, 0, 1, 0, 0, 0);
        bounds(StoneWorks::new, 4, 0, 1000000, "design", 0, 0, 1, 0, 0, 0);
        bounds(StoneWorks::new, 5, 0, 2, "design", 0, 0, 1, 0, 0, 0);
        says("NULL, PLACE, BAD likewise.");
        due("NULL ahead of PLACE", new StoneWorks().design(7, -1, 1, 0, 0, 0), NULL);
        places(BoundariesTest::storms, 1, 0, 4, "design", 0, 0, 48, 0, 0, 0);
        places(BoundariesTest::storms, 1, 0, 98, "design", 0, 0, 1, 0, 0, 0);
        due("PLACE ahead of a BAD ITEM", withItems(1, -1).design(0, 0, 1, 0, 0, 0), PLACE);
        hourItems("design", 0, 0, 2, 0, 0, 0);
        says("(SLOPE as it is.)");
        x = withItems(1, 200, 0);
        x.wall(2, 60);
        due("SLOPE 60", x.design(0, 0, 1, 0, 1000000, 1), 1000);
        due("SLOPE 60, COST", x.design(0, 0, 1, 0, 1000000, 2), 60 + 100);
        x.wall(2, 1);
        due("SLOPE 1", x.design(0, 0, 1, 0, 1000000, 1), NONE);
        due("it stays", x.told(0, 2), 1);
    }

    private void noDesign() {
        says("NONE: there is none.");
        StoneWorks x = withItems(1, 5, 100);
        for (int what = 0; what < 3; what++) {
            due("too high a sea, " + what, x.design(0, 0, 1, 1000000, 0, what), NONE);
        }
        due("a little lower", x.design(0, 0, 1, 1000000, 1, 0), 100);
        x = withItems(1, 200, 0);
        x.wall(2, 1);
        for (int what = 0; what < 3; what++) {
            due("too high a wave, " + what, x.design(0, 0, 1, 14287, 1000000, what), NONE);
        }
        due("a little more HARM", x.design(0, 0, 1, 14288, 1000000, 1), 59319);
    }

    // ---- surveys, harbours

    private void surveyPromises() {
        survey();
        wave();
        calm();
    }

    private static StoneWorks surveys(int first, int second) {
        StoneWorks x = withItems(2, new int[first]);
        fill(x, 1, 2, repeated(-1, second));
        return x;
    }

    private void survey() {
        in("Promise 20");
        says("Two SURVEYS of w by h (1 to 10 each), ITEMS of SHEETS a (earlier), b from their first ones on, by s (1 to 1000):");
        StoneWorks x = surveys(100, 100);
        due("1 by 1", x.survey(0, 1, 1, 1, 1, 0), 1);
        due("10 by 10", x.survey(0, 1, 10, 10, 1, 0), 100);
        due("b is the later one", x.survey(1, 0, 10, 10, 1, 0), 0);
        due("a with itself", x.survey(0, 0, 10, 10, 1, 0), 0);
        fill(x, 1, 2, -1000, -999, 1000, 999);
        due("LOST by 1000", x.survey(0, 1, 4, 1, 1000, 0), 1);
        due("HEAPED by 1000", x.survey(0, 1, 4, 1, 1000, 1), 1);
        due("from the first ones on", x.survey(0, 1, 1, 1, 1, 0), 1);
        says("0 LOST, 1 HEAPED, 2 PATCHES,");
        fill(x, 1, 2, -1, 1, -1, 1, 1, 1);
        due("LOST", x.survey(0, 1, 6, 1, 1, 0), 2);
        due("HEAPED", x.survey(0, 1, 6, 1, 1, 1), 4);
        due("PATCHES", x.survey(0, 1, 6, 1, 1, 2), 2);
        says("3 how large the largest is (0 without).");
        due("1 each", x.survey(0, 1, 6, 1, 1, 3), 1);
        due("two in a column", x.survey(0, 1, 2, 3, 1, 3), 2);
        due("without", x.survey(0, 0, 6, 1, 1, 3), 0);
        due("of all", surveys(100, 100).survey(0, 1, 10, 10, 1, 3), 100);
        says("BAD: SHEETS, w, h, s, what;");
        bounds(StoneWorks::new, 0, 0, 7, "survey", 0, 1, 1, 1, 1, 0);
        bounds(StoneWorks::new, 1, 0, 7, "survey", 0, 1, 1, 1, 1, 0);
        bounds(StoneWorks::new, 2, 1, 10, "survey", 0, 1, 1, 1, 1, 0);
        bounds(StoneWorks::new, 3, 1, 10, "survey", 0, 1, 1, 1, 1, 0);
        bounds(StoneWorks::new, 4, 1, 1000, "survey", 0, 1, 1, 1, 1, 0);
        bounds(StoneWorks::new, 5, 0, 3, "survey", 0, 1, 1, 1, 1, 0);
        says("NULL (a, b),");
        due("a", surveys(1, 1).survey(2, 1, 1, 1, 1, 0), NULL);
        due("b", surveys(1, 1).survey(0, 2, 1, 1, 1, 0), NULL);
        due("b ahead of PLACE of a", surveys(1, 1).survey(0, 2, 2, 1, 1, 0), NULL);
        says("PLACE (a, b).");
        due("just enough", surveys(6, 6).survey(0, 1, 2, 3, 1, 0), 6);
        due("a has one too few", surveys(5, 6).survey(0, 1, 2, 3, 1, 0), PLACE);
        due("b has one too few", surveys(6, 5).survey(0, 1, 2, 3, 1, 0), PLACE);
        due("99 of 100", surveys(100, 99).survey(0, 1, 10, 10, 1, 0), PLACE);
        due("none", surveys(0, 0).survey(0, 1, 1, 1, 1, 0), PLACE);
    }

    private void wave() {
        in("Promise 21");
        says("What comes to x (0 to w), y (0 to h).");
        StoneWorks x = new StoneWorks();
        due("0, 0", x.wave(3, 2, 0, 60, 0, 0, 0), 60);
        due("w, 0", x.wave(3, 2, 0, 60, 0, 3, 0), 15);
        due("0, h", x.wave(3, 2, 0, 60, 0, 0, 2), 20);
        due("w, h", x.wave(3, 2, 0, 60, 0, 3, 2), 10);
        says("BAD as a long: w, h, b, size, k, x, y.");
        int[] least = {1, 1, 0, 1, 0};
        int[] most = {50, 50, 10, 1000000, 4};
        for (int at = 0; at < 5; at++) {
            bounds(StoneWorks::new, at, least[at], most[at], "wave", 1, 1, 5, 100, 1, 0, 0);
        }
        bounds(StoneWorks::new, 5, 0, 3, "wave", 3, 2, 5, 100, 1, 0, 0);
        bounds(StoneWorks::new, 6, 0, 2, "wave", 3, 2, 5, 100, 1, 0, 0);
        bounds(StoneWorks::new, 5, 0, 50, "wave", 50, 1, 5, 100, 1, 0, 0);
        bounds(StoneWorks::new, 6, 0, 50, "wave", 1, 50, 5, 100, 1, 0, 0);
        due("x is w of a smaller one", x.wave(3, 3, 5, 100, 1, 4, 0), BAD);
        due("as a long", x.wave(0, 1, 1, 1, 0, 0, 0), -1000001L);
    }

    private void calm() {
        in("Promise 22");
        says("CALM of n places (1 to 50), ITEMS of a SHEET from i on, two each, by 1000000 and k 2: its number.");
        StoneWorks x = withItems(0, 0, 0, 0, 1, 1);
        due("one", x.calm(1, 1, 0, 0, 0, 1), 0);
        due("two, from 1 on", x.calm(1, 1, 0, 0, 1, 2), 1);
        int[] items = new int[100];
        items[99] = 1;
        due("the last of 50", withItems(0, items).calm(1, 1, 0, 0, 0, 50), 49);
        due("no image of k 3", withItems(0, 2, 1, 0, 2, 0, 0).calm(2, 5, 10, 0, 0, 3), 0);
        due("images of k 2", withItems(0, 2, 1, 0, 2, 0, 0).calm(2, 6, 10, 0, 0, 3), 1);
        due("by 1000000: 50, 49 is not as calm as 50, 50", withItems(0, 50, 49, 50, 50)
                .calm(50, 50, 0, 0, 0, 2), 1);
        says("BAD: w, h, b, SHEET, n;");
        bounds(StoneWorks::new, 0, 1, 50, "calm", 1, 1, 1, 0, 0, 1);
        bounds(StoneWorks::new, 1, 1, 50, "calm", 1, 1, 1, 0, 0, 1);
        bounds(StoneWorks::new, 2, 0, 10, "calm", 1, 1, 1, 0, 0, 1);
        bounds(StoneWorks::new, 3, 0, 7, "calm", 1, 1, 1, 0, 0, 1);
        bounds(StoneWorks::new, 5, 1, 50, "calm", 1, 1, 1, 0, 0, 1);
        says("NULL;");
        due("ahead of PLACE", new StoneWorks().calm(1, 1, 1, 7, -1, 1), NULL);
        says("PLACE;");
        places(BoundariesTest::storms, 4, 0, 0, "calm", 1, 1, 1, 0, 0, 50);
        places(BoundariesTest::storms, 4, 0, 98, "calm", 1, 1, 1, 0, 0, 1);
        due("half a place", withItems(0, 0, 0, 0).calm(1, 1, 1, 0, 0, 2), PLACE);
        due("ahead of a BAD place", withItems(0, -1).calm(1, 1, 1, 0, 0, 1), PLACE);
        says("then BAD: a place.");
        for (int at = 0; at < 4; at++) {
            int most = at % 2 == 0 ? 3 : 2;
            for (int v : new int[] {-1, 0, most, most + 1, MIN, MAX}) {
                x = withItems(2, 0, 0, 0, 0);
                x.set(0, at, v);
                due("ITEM " + at + " is " + v, (x.calm(3, 2, 1, 0, 0, 2) == BAD) != (v >= 0 && v <= most));
            }
        }
        due("one that is not asked for", withItems(0, 0, 0, 9, 9).calm(1, 1, 1, 0, 0, 1), 0);
    }

    // ---- asked

    private void askedPromises() {
        kind();
        as();
        ask();
        trace();
        count();
        status();
    }

    private static StoneWorks sixLayers() {
        return withLayers(60000, 4000, 4000, 1, 1, 1);
    }

    private void kind() {
        in("Promise 23");
        says("The KIND of a LAYER, as it is told (1 to 4).");
        int[] kinds = {2, 4, 4, 4, 4, 3};
        for (int layer = 0; layer < 6; layer++) {
            due("LAYER " + layer, sixLayers().kind(layer), kinds[layer]);
        }
        due("COVER", withLayers(999).kind(0), 1);
        says("BAD.");
        due("without LAYERS", new StoneWorks().kind(0), BAD);
        bounds(() -> withLayers(1), 0, 0, 0, "kind", 0);
        bounds(BoundariesTest::sixLayers, 0, 0, 5, "kind", 0);
    }

    private void as() {
        in("Promise 24");
        says("A LAYER is taken as one of a KIND (0 .. 4): its WEIGHT.");
        due("the least", withLayers(1).as(0, 0), 1);
        due("the most", withLayers(60000).as(0, 2), 60000);
        due("LOOSE", withLayers(1, 7, 7).as(1, 4), 7);
        says("BAD;");
        due("without LAYERS", new StoneWorks().as(0, 0), BAD);
        bounds(BoundariesTest::sixLayers, 0, 0, 5, "as", 0, 0);
        bounds(BoundariesTest::sixLayers, 1, 0, 4, "as", 0, 0);
        says("KIND: it is no such one (each is a LAYER, ARMOUR is a COVER, too).");
        StoneWorks x = withLayers(1000, 1000, 10, 5);
        x.relay(0, 1, 2000);
        boolean[][] fits = {
            {true, true, true, false, false},
            {true, false, false, false, true},
            {true, false, false, true, false},
            {true, false, false, true, false},
        };
        for (int layer = 0; layer < 4; layer++) {
            for (int kind = 0; kind < 5; kind++) {
                int want = fits[layer][kind] ? x.told(layer, 6) : KIND;
                due("LAYER " + layer + " as " + kind, x.as(layer, kind), want);
            }
        }
        for (int kind = 0; kind < 5; kind++) {
            due("COVER as " + kind, withLayers(999).as(0, kind), kind < 2 ? 999 : KIND);
        }
    }

    private void ask() {
        in("Promise 25");
        says("An ASK (0, 1) of a LAYER.");
        due("WORTH", withLayers(1000).ask(0, 0), 1116);
        due("MARK", withLayers(1000).ask(0, 1), 1100);
        says("BAD.");
        due("without LAYERS", new StoneWorks().ask(0, 0), BAD);
        bounds(BoundariesTest::sixLayers, 0, 0, 5, "ask", 0, 0);
        bounds(BoundariesTest::sixLayers, 1, 0, 1, "ask", 0, 0);
        says("THE TRACE is empty ahead of it.");
        StoneWorks x = withLayers(1000, 100);
        x.ask(0, 0);
        due("six at first", x.trace(5), 20);
        x.ask(1, 0);
        due("then its own", x.trace(0), 10);
        due("and no more", x.trace(1), NONE);
        for (int n = 0; n < 5; n++) {
            x.ask(0, 0);
        }
        due("however often", x.trace(0), 12);
        due("no more than six", x.trace(6), NONE);
    }

    private void trace() {
        in("Promise 26");
        says("Number i of THE TRACE;");
        StoneWorks x = withLayers(1000);
        x.ask(0, 0);
        int[] numbers = {12, 11, 10, 22, 21, 20};
        for (int i = 0; i < 6; i++) {
            due("number " + i, x.trace(i), numbers[i]);
        }
        says("NONE.");
        for (int i : new int[] {6, 15, 16, 17, MAX, -1, MIN}) {
            due("number " + i, x.trace(i), NONE);
        }
        due("before an ask", new StoneWorks().trace(0), NONE);
        x.ask(1, 0);
        due("a BAD ask leaves it", x.trace(0), 12);
    }

    private void count() {
        in("Promise 27");
        says("How many: 0 SHEETS,");
        StoneWorks x = new StoneWorks();
        for (int sheet = 0; sheet < 8; sheet++) {
            due("before SHEET " + sheet, x.count(0), sheet);
            x.sheet(sheet, 0, 0);
        }
        due("all", x.count(0), 8);
        x.drop(0);
        due("one less", x.count(0), 7);
        says("1 LAYERS,");
        for (int layer = 0; layer < 6; layer++) {
            due("before LAYER " + layer, x.count(1), layer);
            x.layer(1, 1);
        }
        x.layer(1, 1);
        due("all", x.count(1), 6);
        says("2 that HOLD,");
        due("none", new StoneWorks().count(2), 0);
        due("the innermost one alone", x.count(2), 1);
        due("all", withLayers(6, 5, 4, 3, 2, 1).count(2), 6);
        says("3 LOOSE ones,");
        due("none", withLayers(6, 5, 4, 3, 2, 1).count(3), 0);
        due("all but the outermost and the innermost", x.count(3), 4);
        due("the outermost is none", withLayers(1, 1).count(3), 0);
        says("4 BLOCKS that lie,");
        due("none", new StoneWorks().count(4), 0);
        due("all", withRows(8).count(4), 68);
        says("5 places of all rows.");
        due("at first", new StoneWorks().count(5), 68);
        due("however many lie", withRows(8).count(5), 68);
        says("BAD.");
        bounds(StoneWorks::new, 0, 0, 5, "count", 0);
    }

    private void status() {
        in("Promise 28");
        says("Of the latest call with a SHEET, or as(), that was not BAD, STATE, FULL: the number of its FINDING;");
        StoneWorks x = withItems(0, 1);
        x.sheet(1, 1, 1);
        x.layer(1, 1000);
        int[] findings = {x.drop(5), x.status(), x.set(0, 1, 0), x.status(), x.as(0, 4), x.status(),
            x.sheet(0, 0, -1), x.status(), x.copy(0, 0, 1, 0, 1), x.status()};
        for (int n = 0; n < 5; n++) {
            due("FINDING " + (n + 1), findings[2 * n], -1000011 - n);
            due("status " + (n + 1), findings[2 * n + 1], n + 1);
        }
        statusStays(x);
        statusIsLeftByOthers();
        says("0: it had none,");
        statusAfter("sheet", 0, 2, 10);
        statusAfter("set", 0, 0, BAD);
        statusAfter("set", 0, 0, STORE);
        statusAfter("copy", 0, 0, 0, 1, 1);
        statusAfter("drop", 0);
        statusAfter("shared", 1, 0, NONE, 0);
        statusAfter("planned", 0, 0, 1, 0, 0, 1, 0, 0);
        statusAfter("planned", 0, 0, 1, 0, 0, 1, 0, 5);
        statusAfter("storm", 0, 0, 1, 0);
        statusAfter("design", 0, 0, 1, 0, 0, 0);
        statusAfter("survey", 0, 0, 1, 1, 1, 0);
        statusAfter("calm", 50, 50, 1, 0, 0, 1);
        statusAfter("as", 0, 0);
        says("or there was none.");
        due("a new object", new StoneWorks().status(), 0);
        x = new StoneWorks();
        x.drop(8);
        x.lay(1, 0);
        x.layer(1, 1);
        due("no such call yet", x.status(), 0);
    }

    private void statusStays(StoneWorks x) {
        x.drop(8);
        due("BAD leaves it", x.status(), 5);
        x.storm(0, 0, 1, 2);
        due("BAD, with a SHEET that is there", x.status(), 5);
        x.as(9, 0);
        due("BAD of as()", x.status(), 5);
        x.lay(1, 0);
        due("STATE leaves it", x.status(), 5);
        for (int n = 0; n < 6; n++) {
            x.layer(1, 1);
        }
        due("FULL leaves it", x.status(), 5);
        fill(x, 2, 0, -1, -1);
        x.drop(5);
        x.storm(2, 0, 1, 0);
        due("a BAD ITEM leaves it", x.status(), 1);
        x.calm(1, 1, 1, 2, 0, 1);
        due("a BAD place leaves it", x.status(), 1);
    }

    private void statusIsLeftByOthers() {
        String[] names = {"wall", "layer", "relay", "told", "wide", "volume", "lay", "lift", "reaches",
            "order", "wave", "kind", "ask", "trace", "count", "status"};
        for (String name : names) {
            StoneWorks x = withLayers(1000, 100);
            x.as(0, 4);
            for (int v = -1; v <= 8; v++) {
                Calls.answer(x, name, v, v, v, v, v, v, v);
                due(name + " of numbers that are " + v + " leaves it", x.status(), 3);
                Calls.answer(x, name, 0, v, 1, 1, 1, 1, 1);
                due(name + " with a number that is " + v + " leaves it", x.status(), 3);
            }
            due("volume of all leaves it", x.volume(NONE) > 0 && x.status() == 3);
        }
    }

    /** The call is found fault with in nothing, behind one that was. */
    private void statusAfter(String name, int... a) {
        StoneWorks x = withItems(2, 1, 0);
        fill(x, 1, 0, 100, 0, 0, 0, 1, 1, 1, 1, 1, 1);
        x.layer(1, 1000);
        x.drop(5);
        due("ahead of " + name, x.status(), 1);
        Calls.answer(x, name, a);
        due(name, x.status(), 0);
    }
}
