import java.io.IOException;
import java.util.ArrayList;
import java.util.Arrays;
import java.util.List;

/** "What it is" and "Terms" of the document, with its part 1, sentence by sentence. */
public final class TermsTest extends BySentence {
    private static final String[] ALL = {"sheet 3", "set 3", "copy 5", "drop 1", "wall 2", "layer 2",
        "relay 3", "told 2", "wide 2", "volume 1", "shared 4", "lay 2", "lift 2", "reaches 4", "order 3",
        "planned 8", "storm 4", "design 6", "survey 6", "wave 7", "calm 6", "kind 1", "as 2", "ask 2",
        "count 1"};

    private TermsTest() throws IOException {
        super("TermsTest");
    }

    public static void main(String[] args) throws IOException {
        TermsTest test = new TermsTest();
        test.howLong();
        test.numbers();
        test.divisions();
        test.refusals();
        test.findings();
        test.nothingElseChanges();
        test.sheets();
        test.measures();
        test.layers();
        test.cuts();
        test.volumes();
        test.holding();
        test.kinds();
        test.finish("What it is|Terms|Part 1");
    }

    // ---- what it is

    private void howLong() {
        in("What it is");
        says("An object is used for at most 512 calls after it has been made; what later calls answer is free.");
        StoneWorks x = new StoneWorks();
        x.sheet(0, 2, 1);
        for (int call = 2; call <= 512; call++) {
            due("set, call " + call, x.set(0, 0, call), call);
        }
        x = withLayers(1000);
        for (int call = 2; call <= 511; call++) {
            due("ask, call " + call, x.ask(0, 0), 1 + 15 + 1100);
        }
        due("trace, call 512", x.trace(5), 20);
        x = new StoneWorks();
        for (int call = 1; call <= 509; call += 2) {
            due("lay, call " + call, x.lay(0, 0), 1);
            due("lift, call " + (call + 1), x.lift(0, 0), 1);
        }
        due("lay, call 511", x.lay(0, 0), 1);
        due("count, call 512", x.count(4), 1);
        x = new StoneWorks();
        for (int call = 1; call <= 512; call++) {
            due("sheet, call " + call, x.sheet(call % 8, call % 3, 100), 100);
        }
    }

    // ---- terms

    private void numbers() {
        in("Terms");
        says("Numbers go from 0 on.");
        StoneWorks x = withItems(0, 1, 1);
        due("SHEET 0", x.drop(0), 2);
        due("the first LAYER", x.layer(1, 1000), 0);
        x.ask(0, 0);
        due("the first of THE TRACE", x.trace(0), 12);
        due("the first row and place", x.lay(0, 0), 1);
        fill(x, 0, 0, 1, 1);
        due("the first day", x.planned(1, 0, 1, 0, 0, 1, 0, 1), 0);
        due("the second day", x.planned(1, 1, 1, 0, 0, 2, 0, 2), 1);
        due("the first place of a HARBOUR", x.calm(1, 1, 0, 0, 0, 1), 0);
    }

    private void divisions() {
        says("All that is divided is cut towards 0.");
        StoneWorks x = withWall(20, 6, 7, 10);
        x.layer(3, 1);
        due("2 17 7 by 10 is 23", x.wide(0, 3), 6 + 23);
        due("2 3 17 by 10 is 10", x.wide(1, 0), 6 + 28 - 10);
        due("row 3 by 2 is 1", x.reaches(2, 3, 3, 1), 1);
        due("row 1 by 2 is 0", x.reaches(0, 1, 1, 0), 1);
        x = withItems(1, 9, 0, 6, 0, 6, 0, 6, 0);
        x.wall(2, 16);
        due("N: 900 by 26 is 34, 16 by 10 is 1", x.storm(0, 0, 1, 0), 1);
        x.wall(0, 1);
        due("12 less 10, squared, by 100 is 0", x.storm(0, 2, 3, 1), 0);
        x = withItems(1, 16, 0);
        x.wall(2, 1);
        due("WEIGHT 27 by 10 is 2", x.design(0, 0, 1, 900, 1000000, 2), 1 + 2);
        due("MARK: 999 by 10 is 99", withLayers(999).ask(0, 1), 99);
        due("1000 by 3 is 333", x.wave(5, 5, 0, 1000, 0, 1, 1), 333);
        due("9 by half is 4, is 2", x.wave(1, 50, 5, 9, 1, 1, 0), 9 / 2 + 2 / 2);
    }

    private void refusals() {
        says("Refusals are answers, the first of these that fits: BAD (a number is not as told; there is no such thing),");
        for (String call : ALL) {
            String name = call.split(" ")[0];
            int n = Integer.parseInt(call.split(" ")[1]);
            due(name + " of the least ints", Calls.answer(new StoneWorks(), name, repeated(MIN, n)), BAD);
            due(name + " of the greatest ints", Calls.answer(new StoneWorks(), name, repeated(MAX, n)), BAD);
        }
        due("BAD ahead of STATE", new StoneWorks().lay(1, 11), BAD);
        due("BAD ahead of FULL", withLayers(1, 1, 1, 1, 1, 1).layer(11, 1), BAD);
        due("BAD ahead of a FINDING", new StoneWorks().sheet(8, 0, -1), BAD);
        due("the number", StoneWorks.BAD, BAD);
        badAheadOfFindings();
        says("STATE (as told),");
        due("laid on nothing", new StoneWorks().lay(1, 0), STATE);
        due("the number", StoneWorks.STATE, STATE);
        says("FULL (as told),");
        due("a seventh LAYER", withLayers(1, 1, 1, 1, 1, 1).layer(1, 1), FULL);
        due("the number", StoneWorks.FULL, FULL);
    }

    private void badAheadOfFindings() {
        badAhead("sheet", new int[] {0, 0, -1}, 8, 3, NONE);
        badAhead("sheet", new int[] {0, 0, -1}, -1, -1, NONE);
        badAhead("copy", new int[] {0, 0, 1, 0, 1}, 8, NONE, 8, NONE, NONE);
        badAhead("copy", new int[] {0, 0, 1, 0, 1}, -1, NONE, -1, NONE, NONE);
        badAhead("shared", new int[] {0, 0, 0, 0}, 8, NONE, 4, 3);
        badAhead("shared", new int[] {0, 0, 0, 0}, -1, NONE, -1, -1);
        badAhead("planned", new int[] {0, 0, 1, 0, 0, 1, 0, 0}, 12, 31, 9, 8, NONE, 21, 8, 12);
        badAhead("planned", new int[] {0, 0, 1, 0, 0, 1, 0, 0}, -1, -1, 0, -1, NONE, 0, -1, -1);
        badAhead("storm", new int[] {0, 0, 1, 0}, 8, NONE, 49, 2);
        badAhead("storm", new int[] {0, 0, 1, 0}, -1, NONE, 0, -1);
        badAhead("design", new int[] {0, 0, 1, 0, 0, 0}, 8, NONE, 49, 1000001, 1000001, 3);
        badAhead("design", new int[] {0, 0, 1, 0, 0, 0}, -1, NONE, 0, -1, -1, -1);
        badAhead("survey", new int[] {0, 1, 1, 1, 1, 0}, 8, 8, 11, 11, 1001, 4);
        badAhead("survey", new int[] {0, 1, 1, 1, 1, 0}, -1, -1, 0, 0, 0, -1);
        badAhead("calm", new int[] {1, 1, 0, 0, 0, 1}, 51, 51, 11, 8, NONE, 51);
        badAhead("calm", new int[] {1, 1, 0, 0, 0, 1}, 0, 0, -1, -1, NONE, 0);
    }

    /** A call that has a FINDING is BAD with any one of these numbers; NONE: no number is, there. */
    private void badAhead(String name, int[] a, int... bad) {
        for (StoneWorks x : new StoneWorks[] {new StoneWorks(), withEmptySheets()}) {
            due(name + " has a FINDING", Calls.answer(x, name, a) < -1000010);
            int status = x.status();
            for (int at = 0; at < a.length; at++) {
                int[] changed = a.clone();
                changed[at] = bad[at];
                if (bad[at] != NONE) {
                    String what = name + Arrays.toString(changed);
                    due(what + " ahead of a FINDING", Calls.answer(x, name, changed), BAD);
                    due(what + " leaves status()", x.status(), status);
                }
            }
        }
    }

    private static StoneWorks withEmptySheets() {
        StoneWorks x = new StoneWorks();
        x.sheet(0, 0, 0);
        x.sheet(1, 0, 0);
        return x;
    }

    private void findings() {
        says("then FINDINGS, of several the first in time: -1000010 less");
        StoneWorks x = withItems(0, 1);
        x.sheet(1, 1, 1);
        due("copy: NULL ahead of PLACE", x.copy(0, 5, 2, 0, 1), NULL);
        due("copy: STORE ahead of PLACE", x.copy(0, 5, 1, 0, 1), STORE);
        due("survey: NULL of the later one ahead of PLACE of the earlier", x.survey(0, 2, 2, 1, 1, 0), NULL);
        due("set: NULL ahead of PLACE", x.set(2, -1, 0), NULL);
        says("1 NULL (a SHEET that is missing),");
        due("drop", new StoneWorks().drop(0), NULL);
        due("an empty SHEET is not missing", withItems(0).drop(0), 0);
        says("2 PLACE (no such place of a SHEET),");
        due("place 1 of one", x.set(0, 1, 0), PLACE);
        due("place 0 of one", x.set(0, 0, 0), 0);
        due("place 0 of none", withItems(0).set(0, 0, 0), PLACE);
        says("3 KIND (a LAYER that is not that),");
        due("ARMOUR as LOOSE", withLayers(1000).as(0, 4), KIND);
        says("4 SIZE (fewer than none),");
        due("-1 ITEMS", x.sheet(0, 0, -1), SIZE);
        due("0 ITEMS", x.sheet(0, 0, 0), 0);
        says("5 STORE (SHEETS of two LANES).");
        x = withItems(0, 1);
        for (int lane = 0; lane < 3; lane++) {
            x.sheet(1, lane, 1);
            due("bytes to LANE " + lane, x.copy(0, 0, 1, 0, 1), lane == 0 ? 1 : STORE);
        }
    }

    // ---- what is refused changes nothing

    /** Something of all that an object keeps; its status is 5 (STORE). */
    private static StoneWorks busy() {
        StoneWorks x = withWall(30, 7, 12, 3);
        x.wall(4, 9);
        fill(x, 0, 0, 1, 2, 3);
        fill(x, 1, 1, 40, 30, 20, 10, 30, 30, 30, 15, 15, 16);
        fill(x, 2, 2, 201, 101, 21, -1);
        for (int layer = 0; layer < 6; layer++) {
            x.layer(layer + 1, 30000 >> 2 * layer);
        }
        layRow(x, 0, 0, 2);
        x.lay(1, 0);
        x.ask(0, 0);
        x.copy(0, 0, 1, 0, 1);
        return x;
    }

    private void nothingElseChanges() {
        says("What is refused, or found, changes nothing but status().");
        due("at first", busy().status(), 5);
        unchanged(BAD, 5, "sheet", new int[][] {{8, 0, 1}, {-1, 0, 1}, {0, 3, 1}, {0, 0, 101}});
        unchanged(BAD, 5, "set", new int[][] {{8, 0, 1}, {-1, 0, 1}});
        unchanged(BAD, 5, "copy", new int[][] {{8, 0, 0, 0, 1}, {0, 0, 8, 0, 1}});
        unchanged(BAD, 5, "drop", new int[][] {{8}, {-1}});
        unchanged(BAD, 5, "wall", new int[][] {{0, 101}, {1, 0}, {2, 61}, {3, 0}, {4, 1}, {5, 1}});
        unchanged(BAD, 5, "layer", new int[][] {{0, 1}, {1, 0}});
        unchanged(FULL, 5, "layer", new int[][] {{1, 1}});
        unchanged(BAD, 5, "relay", new int[][] {{6, 1, 1}, {0, 11, 1}, {0, 1, 60001}});
        unchanged(BAD, 5, "told", new int[][] {{0, 8}, {6, 5}});
        unchanged(BAD, 5, "wide", new int[][] {{7, 0}, {0, 30}});
        unchanged(BAD, 5, "volume", new int[][] {{7}, {-1}});
        unchanged(BAD, 5, "lay", new int[][] {{8, 0}, {0, 12}});
        unchanged(STATE, 5, "lay", new int[][] {{0, 0}, {2, 0}});
        unchanged(BAD, 5, "lift", new int[][] {{8, 0}, {0, 12}});
        unchanged(STATE, 5, "lift", new int[][] {{0, 0}, {0, 3}});
        unchanged(BAD, 5, "reaches", new int[][] {{12, 0, 0, 0}});
        unchanged(BAD, 5, "order", new int[][] {{0, 0, 9}});
        unchanged(BAD, 5, "wave", new int[][] {{1, 1, 1, 1, 5, 0, 0}});
        unchanged(BAD, 5, "kind", new int[][] {{6}});
        unchanged(BAD, 5, "as", new int[][] {{6, 0}, {0, 5}});
        unchanged(BAD, 5, "ask", new int[][] {{6, 0}, {0, 2}});
        unchanged(BAD, 5, "count", new int[][] {{6}});
        unchangedByItems();
        unchangedByFindings();
        laterAnswers();
    }

    /** What a refused call has read of a SHEET is not left over for the next one. */
    private void laterAnswers() {
        StoneWorks x = withItems(1, 99, 0, 0, 0, 100, 100, 100, 15, 15, 15);
        fill(x, 1, 1, 100, 0, 0, 0, 100, 100, 100, 0, 2, 4);
        due("SORTS that do not add up", x.shared(0, 0, NONE, 0), BAD);
        due("then none is ALLOWED", x.shared(1, 0, NONE, 0), 100);
        x = withItems(1, 200, 100, 200, 101);
        fill(x, 1, 1, 9, 0);
        due("a BAD second hour", x.storm(0, 0, 2, 1), BAD);
        due("then one hour, HARM", x.storm(1, 0, 1, 0), 3);
        due("then one hour, OVER", x.storm(1, 0, 1, 1), 0);
        due("a BAD second hour, DESIGN", x.design(0, 0, 2, 0, 0, 0), BAD);
        due("then CREST for one hour", x.design(1, 0, 1, 0, 0, 0), 1);
        x = new StoneWorks();
        due("THE ORDER by a crane far off", x.order(11, 30, 8), 68);
        due("then by one that is near", x.order(0, 0, 8), 1);
        fill(x, 0, 0, 20);
        due("above the rows of this ORDER", x.planned(0, 30, 1, 0, 0, 1, 1, 0), NONE);
    }

    private void unchangedByItems() {
        unchanged(BAD, 5, "shared", new int[][] {{8, 0, 0, 0}, {1, 0, 4, 0}, {1, 0, 0, 0}});
        unchanged(BAD, 5, "planned", new int[][] {{0, 0, 1, 8, 0, 1, 0, 0}, {0, 0, 1, 2, 2, 1, 0, 0}});
        unchanged(BAD, 5, "storm", new int[][] {{8, 0, 1, 0}, {2, 0, 1, 0}, {2, 2, 1, 1}});
        unchanged(BAD, 5, "design", new int[][] {{0, 0, 1, -1, 0, 0}, {2, 0, 1, 0, 0, 0}});
        unchanged(BAD, 5, "survey", new int[][] {{0, 8, 1, 1, 1, 0}, {0, 1, 1, 1, 0, 0}});
        unchanged(BAD, 5, "calm", new int[][] {{0, 1, 1, 0, 0, 1}, {50, 50, 1, 2, 0, 1}});
    }

    private void unchangedByFindings() {
        unchanged(SIZE, 4, "sheet", new int[][] {{0, 1, -1}, {5, 1, MIN}});
        unchanged(NULL, 1, "set", new int[][] {{5, 0, 1}});
        unchanged(PLACE, 2, "set", new int[][] {{0, 3, 1}, {0, -1, 1}, {1, -1, 1}});
        unchanged(NULL, 1, "copy", new int[][] {{0, 0, 5, 0, 1}, {5, 0, 0, 0, 1}});
        unchanged(STORE, 5, "copy", new int[][] {{0, 0, 2, 0, 3}});
        unchanged(PLACE, 2, "copy", new int[][] {{0, 0, 0, 1, 3}, {0, 1, 0, 0, 3}, {0, 0, 0, 1, -1}});
        unchanged(NULL, 1, "drop", new int[][] {{5}});
        unchanged(NULL, 1, "shared", new int[][] {{5, 0, 0, 0}});
        unchanged(PLACE, 2, "shared", new int[][] {{1, 1, 0, 0}});
        unchanged(NULL, 1, "planned", new int[][] {{0, 0, 1, 5, 0, 1, 0, 0}});
        unchanged(PLACE, 2, "planned", new int[][] {{0, 0, 1, 0, 3, 1, 0, 0}});
        unchanged(NULL, 1, "storm", new int[][] {{5, 0, 1, 0}});
        unchanged(PLACE, 2, "storm", new int[][] {{0, 2, 1, 0}});
        unchanged(NULL, 1, "design", new int[][] {{5, 0, 1, 0, 0, 0}});
        unchanged(PLACE, 2, "design", new int[][] {{0, 2, 1, 0, 0, 0}});
        unchanged(NULL, 1, "survey", new int[][] {{5, 0, 1, 1, 1, 0}, {0, 5, 1, 1, 1, 0}});
        unchanged(PLACE, 2, "survey", new int[][] {{0, 1, 2, 2, 1, 0}, {1, 0, 2, 2, 1, 0}});
        unchanged(NULL, 1, "calm", new int[][] {{1, 1, 1, 5, 0, 1}});
        unchanged(PLACE, 2, "calm", new int[][] {{1, 1, 1, 0, 2, 1}});
        unchanged(KIND, 3, "as", new int[][] {{0, 4}, {5, 2}});
    }

    private void unchanged(int want, int status, String name, int[][] calls) {
        for (int[] a : calls) {
            String what = name + Arrays.toString(a);
            StoneWorks x = busy();
            due(what, Calls.answer(x, name, a), want);
            due(what + ", then status", x.status(), status);
            due(what + ", then all else", allOf(x).equals(allOf(busy())));
        }
    }

    /** What an object keeps, told by calls that may change it. */
    private static List<Long> allOf(StoneWorks x) {
        List<Long> all = new ArrayList<>();
        for (int what = 0; what <= 7; what++) {
            all.add((long) x.count(what));
            for (int layer = 0; layer < 6; layer++) {
                all.add((long) x.told(layer, what));
            }
        }
        for (int i = 0; i < 16; i++) {
            all.add((long) x.trace(i));
        }
        for (int row = 7; row >= 0; row--) {
            for (int place = 0; place < 12 - row; place++) {
                all.add((long) x.lift(row, place));
            }
        }
        all.add(hasItems(x, 0, 1, 2, 3) ? 1L : 0);
        all.add(hasItems(x, 1, 40, 30, 20, 10, 30, 30, 30, 15, 15, 16) ? 1L : 0);
        all.add(hasItems(x, 2, 201, 101, 21, -1) ? 1L : 0);
        for (int sheet = 0; sheet < 8; sheet++) {
            for (int lane = 0; lane < 3; lane++) {
                x.sheet(7, lane, 0);
                all.add((long) x.copy(sheet, 0, 7, 0, 0));
            }
            all.add((long) x.drop(sheet));
        }
        return all;
    }

    // ---- part 1: sheets

    private void sheets() {
        in("Part 1");
        says("SHEETS 0 .. 7 are missing (at first),");
        for (int sheet = 0; sheet <= 7; sheet++) {
            due("SHEET " + sheet, new StoneWorks().drop(sheet), NULL);
        }
        due("SHEET -1", new StoneWorks().drop(-1), BAD);
        due("SHEET 8", new StoneWorks().drop(8), BAD);
        says("or have a LANE (0 bytes, 1 shorts, 2 ints)");
        int[] most = {127, 32767, MAX};
        int[] least = {-128, -32768, MIN};
        for (int lane = 0; lane < 3; lane++) {
            StoneWorks x = withItems(lane, 0);
            due("the most, LANE " + lane, x.set(0, 0, most[lane]), most[lane]);
            due("the least, LANE " + lane, x.set(0, 0, least[lane]), least[lane]);
            due("one more wraps around, LANE " + lane, x.set(0, 0, most[lane] + 1), least[lane]);
            due("one less wraps around, LANE " + lane, x.set(0, 0, least[lane] - 1), most[lane]);
        }
        bounds(StoneWorks::new, 1, 0, 2, "sheet", 0, 0, 1);
        says("and 0 to 100 ITEMS,");
        StoneWorks x = new StoneWorks();
        due("none", x.sheet(0, 0, 0), 0);
        due("its first", x.set(0, 0, 1), PLACE);
        due("all", x.sheet(0, 0, 100), 100);
        due("the last", x.set(0, 99, 1), 1);
        due("beyond", x.set(0, 100, 1), PLACE);
        due("one too many", x.sheet(0, 0, 101), BAD);
        due("one fewer than none", x.sheet(0, 0, -1), SIZE);
        says("0 at first.");
        for (int sheet = 0; sheet < 7; sheet++) {
            x = new StoneWorks();
            x.sheet(sheet, 2, 100);
            due("SHEET " + sheet, hasItems(x, sheet, new int[100]));
        }
    }

    // ---- part 1: the wall

    private void measures() {
        says("THE WALL: CREST (its height above the ground, 1 to 100; 20 at first),");
        measure(0, 1, 100, 20);
        says("TOP (how wide it is there, 1 to 50; 6),");
        measure(1, 1, 50, 6);
        says("SLOPE (1 to 60: tenths aside for each one up; 15).");
        measure(2, 1, 60, 15);
    }

    private void measure(int what, int least, int most, int first) {
        StoneWorks x = new StoneWorks();
        due("at first", x.told(0, what), first);
        bounds(StoneWorks::new, 1, least, most, "wall", what, first);
        due("it becomes the least", x.wall(what, least), first);
        due("it becomes the most", x.wall(what, most), least);
        due("it is the most", x.told(0, what), most);
    }

    private void layers() {
        says("LAYERS 0 .. 5 (6 at most), the outermost first,");
        StoneWorks x = new StoneWorks();
        for (int layer = 0; layer <= 5; layer++) {
            due("no LAYER " + layer + " yet", x.told(layer, 5), BAD);
            due("LAYER " + layer, x.layer(layer + 1, 6 - layer), layer);
            due("THICK of " + layer, x.told(layer, 5), layer + 1);
        }
        due("a seventh", x.layer(1, 1), FULL);
        due("LAYER 6", x.told(6, 5), BAD);
        due("LAYER -1", x.told(-1, 5), BAD);
        due("the first is the outermost", x.as(0, 1), 6);
        due("the second is not", x.as(1, 1), KIND);
        says("each THICK (1 to 10)");
        bounds(StoneWorks::new, 0, 1, 10, "layer", 1, 1);
        says("with blocks of a WEIGHT (1 to 60000 kilograms).");
        bounds(StoneWorks::new, 1, 1, 60000, "layer", 1, 1);
    }

    private void cuts() {
        says("A CUT at height h (0 to CREST - 1; from h to h + 1):");
        for (int crest : new int[] {1, 20, 100}) {
            bounds(() -> withWall(crest, 6, 15, 10), 1, 0, crest - 1, "wide", 0, 0);
        }
        says("the wall without LAYERS 0 to k - 1 is WIDE(k, h): TOP and (2 (CREST - h) SLOPE by 10) less (2 T(k) (10 + SLOPE) by 10),");
        StoneWorks x = withWall(100, 50, 60, 1);
        due("the widest", x.wide(0, 0), 50 + 1200);
        due("under the CREST", x.wide(0, 99), 50 + 12);
        x = withWall(1, 1, 1, 1);
        due("the least wall", x.wide(0, 0), 1);
        x = withWall(100, 9, 3, 1);
        x.layer(7, 1);
        x.layer(10, 1);
        due("without LAYER 0", x.wide(1, 0), 9 + 60 - 18);
        due("without both", x.wide(2, 0), 9 + 60 - 44);
        due("both are cut", x.wide(1, 1), 9 + 59 - 18);
        says("0 at least;");
        x = withWall(100, 1, 1, 1);
        x.layer(9, 1);
        due("1 and 19 less 19", x.wide(1, 5), 1);
        due("1 and 18 less 19", x.wide(1, 6), 0);
        due("1 and 17 less 19", x.wide(1, 11), 0);
        due("far below the height where it ends", x.wide(1, 90), 0);
        heights();
    }

    private void heights() {
        says("T(k) is all THICK of LAYERS ahead of k, added;");
        StoneWorks x = withWall(100, 50, 10, 1);
        int t = 0;
        for (int k = 0; k <= 6; k++) {
            due("k " + k, x.wide(k, 0), 50 + 200 - 4 * t);
            x.layer(10 - k, 1);
            t += 10 - k;
        }
        says("0, too, where h is CREST - T(k) or more.");
        x = withWall(20, 50, 1, 1);
        x.layer(3, 1);
        x.layer(10, 1);
        due("just below", x.wide(1, 16), 50 - 6);
        due("there", x.wide(1, 17), 0);
        due("above", x.wide(1, 19), 0);
        due("just below, two LAYERS", x.wide(2, 6), 50 + 2 - 28);
        due("there, two LAYERS", x.wide(2, 7), 0);
        due("all of the wall is no LAYER's end", x.wide(0, 19), 50);
        x.wall(0, 10);
        due("LAYERS thicker than CREST is high", x.wide(2, 0), 0);
        due("one LAYER less", x.wide(1, 6), 50 - 6);
    }

    private void volumes() {
        says("LAYER k takes WIDE(k, h) less WIDE(k + 1, h) of a CUT (0 at least),");
        StoneWorks x = withWall(2, 4, 10, 1);
        x.layer(1, 1);
        x.layer(5, 1);
        x.layer(2, 1);
        due("LAYER 0: 8 less 4, and 6", x.volume(0), 4 + 6);
        due("LAYER 1: what is left", x.volume(1), 4);
        due("LAYER 2: nothing is left to it", x.volume(2), 0);
        x = withWall(1, 1, 1, 1);
        x.layer(10, 1);
        due("a LAYER takes no more than there is", x.volume(0), 1);
        says("the CORE (behind the last LAYER) what WIDE is left.");
        x = withWall(3, 4, 10, 1);
        due("all, without LAYERS", x.volume(0), 10 + 8 + 6);
        x.layer(1, 1);
        due("behind one", x.volume(1), 6 + 4);
        x.layer(1, 1);
        due("behind two", x.volume(2), 2);
        x.layer(1, 1);
        due("behind three", x.volume(3), 0);
        says("VOLUME: all CUTS, added, times the LENGTH (1 to 1000; 10).");
        measure(3, 1, 1000, 10);
        due("LENGTH 1", withWall(3, 4, 10, 1).volume(0), 24);
        due("LENGTH 1000", withWall(3, 4, 10, 1000).volume(0), 24000);
        due("one CUT", withWall(1, 50, 60, 7).volume(0), 7 * 62);
        due("the most", withWall(100, 50, 60, 1000).volume(0), 1000 * (100 * 50 + 12 * 5050));
    }

    private void holding() {
        says("HOLDS: LAYER k holds what is within (LAYER k + 1), if its WEIGHT is FILTER (2 to 30; 15) times the inner one's or less, and more than it.");
        measure(4, 2, 30, 15);
        int[] filters = {2, 15, 30};
        for (int filter : filters) {
            int[] weights = {99, 100, 101, filter * 100, filter * 100 + 1};
            int[] want = {0, 0, 1, 1, 0};
            for (int n = 0; n < weights.length; n++) {
                StoneWorks x = withLayers(weights[n], 100);
                x.wall(4, filter);
                due("FILTER " + filter + ": " + weights[n] + " holds 100", x.told(0, 7), want[n]);
            }
        }
        StoneWorks x = withLayers(60000, 4000, 60000, 2000);
        due("60000 on 4000", x.told(0, 7), 1);
        due("4000 on 60000", x.told(1, 7), 0);
        due("the next one is held to, no other", x.told(2, 7), 0);
        due("60000 on 60000", withLayers(60000, 60000).told(0, 7), 0);
        due("the most on the least", withLayers(60000, 1).told(0, 7), 0);
    }

    private void kinds() {
        says("KINDS of LAYERS: 0 LAYER;");
        StoneWorks x = withLayers(2000, 1000, 10, 1);
        for (int layer = 0; layer < 4; layer++) {
            due("LAYER " + layer, x.as(layer, 0), x.told(layer, 6));
        }
        says("1 COVER, a LAYER: it is the outermost one;");
        due("the outermost", withLayers(10, 10).as(0, 1), 10);
        due("the one within", withLayers(10, 10).as(1, 1), KIND);
        says("2 ARMOUR, a COVER: it HOLDS what is within (or nothing is), and WEIGHT is 1000 or more;");
        due("1000, nothing within", withLayers(1000).as(0, 2), 1000);
        due("999, nothing within", withLayers(999).as(0, 2), KIND);
        due("1000 that HOLDS", withLayers(1000, 999).as(0, 2), 1000);
        due("999 that HOLDS", withLayers(999, 998).as(0, 2), KIND);
        due("1000 that does not HOLD", withLayers(1000, 1000).as(0, 2), KIND);
        due("1000 on too light ones", withLayers(1000, 66).as(0, 2), KIND);
        due("not the outermost", withLayers(2000, 1000).as(1, 2), KIND);
        due("it is a COVER", withLayers(1000).as(0, 1), 1000);
        says("3 UNDER, a LAYER: not the outermost, and it HOLDS (the innermost one: so it does);");
        due("the innermost one", withLayers(10, 50).as(1, 3), 50);
        due("it HOLDS", withLayers(10, 50, 49).as(1, 3), 50);
        due("it does not HOLD", withLayers(10, 50, 50).as(1, 3), KIND);
        due("the outermost", withLayers(10).as(0, 3), KIND);
        says("4 LOOSE, a LAYER: not the outermost, it does not HOLD.");
        due("as heavy as what is within", withLayers(10, 50, 50).as(1, 4), 50);
        due("just heavier", withLayers(10, 51, 50).as(1, 4), KIND);
        due("too heavy", withLayers(10, 751, 50).as(1, 4), 751);
        due("the innermost one", withLayers(10, 50).as(1, 4), KIND);
        due("the outermost", withLayers(10, 50).as(0, 4), KIND);
        says("It is told as the first that fits of ARMOUR, COVER, UNDER, LOOSE: by this it is asked.");
        due("ARMOUR ahead of COVER", withLayers(1000).kind(0), 2);
        due("COVER", withLayers(999).kind(0), 1);
        due("UNDER", withLayers(1, 50).kind(1), 3);
        due("LOOSE", withLayers(1, 50, 50).kind(1), 4);
        due("as ARMOUR it is asked", withLayers(1000).ask(0, 1), 1100);
        due("as COVER it is asked", withLayers(999).ask(0, 1), 99);
        due("as UNDER it is asked", withLayers(1, 50).ask(1, 1), 51);
        due("as LOOSE it is asked", withLayers(1, 50, 50).ask(1, 0), -49);
    }
}
