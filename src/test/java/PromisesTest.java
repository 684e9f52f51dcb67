/** Each promise of the document: ordinary inputs, the edges it names, wrong inputs. */
public final class PromisesTest {
    private static final int NONE = -1000000;
    private static final int BAD = -1000001;
    private static final int STATE = -1000002;
    private static final int FULL = -1000003;
    private static final int NULL = -1000011;
    private static final int PLACE = -1000012;
    private static final int KIND = -1000013;
    private static final int SIZE = -1000014;
    private static final int STORE = -1000015;
    private static final int MIN = Integer.MIN_VALUE;
    private static final int MAX = Integer.MAX_VALUE;

    private static final Check CHECK = new Check("PromisesTest");

    private static void due(String what, long got, long want) {
        CHECK.due(what, got, want);
    }

    public static void main(String[] args) {
        p1NewObject();
        p2Sheet();
        p3Set();
        p4Copy();
        p5Drop();
        p6Wall();
        p7Layer();
        p8Relay();
        p9Told();
        p10Wide();
        p11Volume();
        p12Shared();
        p13Lay();
        p14Lift();
        p15Reaches();
        p16Order();
        p17Planned();
        p18Storm();
        p19Design();
        p20Survey();
        p21Wave();
        p22Calm();
        p23Kind();
        p24As();
        p25Ask();
        p26Trace();
        p27Count();
        p28Status();
        CHECK.finish();
    }

    /** A SHEET of a LANE with these ITEMS. */
    private static void fill(StoneWorks x, int sheet, int lane, int... items) {
        x.sheet(sheet, lane, items.length);
        for (int i = 0; i < items.length; i++) {
            x.set(sheet, i, items[i]);
        }
    }

    private static void p1NewObject() {
        StoneWorks x = new StoneWorks();
        int[] first = {20, 6, 15, 10, 15};
        for (int what = 0; what < first.length; what++) {
            due("1 told " + what, x.told(0, what), first[what]);
        }
        for (int what = 0; what < 5; what++) {
            due("1 count " + what, x.count(what), 0);
        }
        for (int sheet = 0; sheet < 8; sheet++) {
            due("1 drop " + sheet, x.drop(sheet), NULL);
        }
        due("1 status of a new one", new StoneWorks().status(), 0);
        due("1 trace of a new one", new StoneWorks().trace(0), NONE);
        x.layer(1, 1);
        due("1 objects share nothing", new StoneWorks().count(1), 0);
        due("1 NONE", StoneWorks.NONE, NONE);
        due("1 BAD", StoneWorks.BAD, BAD);
        due("1 STATE", StoneWorks.STATE, STATE);
        due("1 FULL", StoneWorks.FULL, FULL);
    }

    private static void p2Sheet() {
        StoneWorks x = new StoneWorks();
        due("2 none", x.sheet(0, 0, 0), 0);
        due("2 most", x.sheet(7, 2, 100), 100);
        due("2 count", x.count(0), 2);
        due("2 last item", x.set(7, 99, MAX), MAX);
        due("2 in place of what is there", x.sheet(7, 2, 3), 3);
        due("2 shorter now", x.set(7, 3, 1), PLACE);
        fill(x, 6, 2, 5, 5, 5);
        due("2 items are 0 at first", x.survey(7, 6, 3, 1, 5, 1), 3);
        x.sheet(7, 2, 100);
        fill(x, 6, 2, new int[100]);
        due("2 items beyond are 0, too", x.survey(6, 7, 10, 10, 1, 1), 0);
        due("2 sheet -1", x.sheet(-1, 0, 1), BAD);
        due("2 sheet 8", x.sheet(8, 0, 1), BAD);
        due("2 lane -1", x.sheet(0, -1, 1), BAD);
        due("2 lane 3", x.sheet(0, 3, 1), BAD);
        due("2 n 101", x.sheet(0, 0, 101), BAD);
        due("2 n below 0", x.sheet(1, 0, -1), SIZE);
        due("2 n far below 0", x.sheet(1, 0, MIN), SIZE);
        due("2 BAD ahead of SIZE", x.sheet(8, 0, -1), BAD);
        due("2 BAD lane ahead of SIZE", x.sheet(1, 3, -1), BAD);
        due("2 found: nothing made", x.count(0), 3);
        due("2 found: nothing lost", x.sheet(7, 0, -1), SIZE);
        due("2 it is as it was", x.drop(7), 100);
    }

    private static void p3Set() {
        StoneWorks x = new StoneWorks();
        x.sheet(0, 0, 3);
        x.sheet(1, 1, 3);
        x.sheet(2, 2, 3);
        due("3 byte 127", x.set(0, 0, 127), 127);
        due("3 byte 128", x.set(0, 0, 128), -128);
        due("3 byte 511", x.set(0, 0, 511), -1);
        due("3 byte MIN", x.set(0, 0, MIN), 0);
        due("3 short 32768", x.set(1, 0, 32768), -32768);
        due("3 short 65536 and 7", x.set(1, 2, 65543), 7);
        due("3 int MIN", x.set(2, 0, MIN), MIN);
        due("3 int like BAD", x.set(2, 1, BAD), BAD);
        due("3 place -1", x.set(0, -1, 1), PLACE);
        due("3 place 3", x.set(0, 3, 1), PLACE);
        due("3 place MAX", x.set(0, MAX, 1), PLACE);
        due("3 place MIN", x.set(0, MIN, 1), PLACE);
        due("3 missing", x.set(3, 0, 1), NULL);
        due("3 missing ahead of place", x.set(3, -1, 1), NULL);
        due("3 sheet 8", x.set(8, 0, 1), BAD);
        due("3 sheet -1", x.set(-1, 0, 1), BAD);
    }

    private static void p4Copy() {
        StoneWorks x = new StoneWorks();
        fill(x, 0, 2, 1, 2, 3, 4, 5);
        fill(x, 1, 2, 9, 9, 9, 9, 9);
        due("4 copy", x.copy(0, 1, 1, 2, 3), 3);
        checkItems(x, "4 copied", 1, 9, 9, 2, 3, 4);
        due("4 onward in itself", x.copy(0, 0, 0, 1, 4), 4);
        checkItems(x, "4 as they were ahead", 0, 1, 1, 2, 3, 4);
        due("4 back in itself", x.copy(0, 1, 0, 0, 4), 4);
        checkItems(x, "4 as they were ahead, back", 0, 1, 2, 3, 4, 4);
        due("4 none at the end", x.copy(0, 5, 1, 5, 0), 0);
        due("4 none beyond the end", x.copy(0, 6, 1, 5, 0), PLACE);
        due("4 none beyond the other end", x.copy(0, 5, 1, 6, 0), PLACE);
        due("4 beyond the end", x.copy(0, 3, 1, 0, 3), PLACE);
        due("4 beyond the other end", x.copy(0, 0, 1, 3, 3), PLACE);
        due("4 i below 0", x.copy(0, -1, 1, 0, 1), PLACE);
        due("4 j below 0", x.copy(0, 0, 1, -1, 1), PLACE);
        due("4 n below 0", x.copy(0, 0, 1, 0, -1), PLACE);
        due("4 n MAX", x.copy(0, 1, 1, 1, MAX), PLACE);
        due("4 i MAX", x.copy(0, MAX, 1, 0, MAX), PLACE);
        due("4 all MIN", x.copy(0, MIN, 1, MIN, MIN), PLACE);
        checkItems(x, "4 found: nothing changed", 1, 9, 9, 2, 3, 4);
        x.sheet(2, 1, 5);
        due("4 two lanes", x.copy(0, 0, 2, 0, 1), STORE);
        due("4 two lanes ahead of place", x.copy(0, 9, 2, 0, 1), STORE);
        due("4 a missing", x.copy(3, 0, 0, 0, 1), NULL);
        due("4 b missing", x.copy(0, 9, 3, 0, 1), NULL);
        due("4 BAD a", x.copy(8, 0, 3, 0, 1), BAD);
        due("4 BAD b", x.copy(3, 0, -1, 0, 1), BAD);
    }

    /** ITEMS are told by no call: those of one SHEET are held to a SURVEY that is as due. */
    private static void checkItems(StoneWorks x, String what, int sheet, int... items) {
        fill(x, 7, 2, items);
        due(what + ", lower", x.survey(sheet, 7, items.length, 1, 1, 0), 0);
        due(what + ", higher", x.survey(sheet, 7, items.length, 1, 1, 1), 0);
    }

    private static void p5Drop() {
        StoneWorks x = new StoneWorks();
        x.sheet(0, 0, 7);
        x.sheet(1, 0, 0);
        due("5 drop", x.drop(0), 7);
        due("5 drop again", x.drop(0), NULL);
        due("5 drop an empty one", x.drop(1), 0);
        due("5 it is missing", x.set(0, 0, 1), NULL);
        due("5 count", x.count(0), 0);
        due("5 sheet 8", x.drop(8), BAD);
        due("5 sheet -1", x.drop(-1), BAD);
        due("5 again there", x.sheet(0, 1, 2), 2);
    }

    private static void p6Wall() {
        StoneWorks x = new StoneWorks();
        int[] first = {20, 6, 15, 10, 15};
        int[] least = {1, 1, 1, 1, 2};
        int[] most = {100, 50, 60, 1000, 30};
        for (int what = 0; what < 5; what++) {
            due("6 below " + what, x.wall(what, least[what] - 1), BAD);
            due("6 above " + what, x.wall(what, most[what] + 1), BAD);
            due("6 as at first " + what, x.wall(what, least[what]), first[what]);
            due("6 least " + what, x.wall(what, most[what]), least[what]);
            due("6 most " + what, x.told(0, what), most[what]);
        }
        due("6 what -1", x.wall(-1, 5), BAD);
        due("6 what 5", x.wall(5, 5), BAD);
        due("6 what MAX", x.wall(MAX, 5), BAD);
    }

    private static void p7Layer() {
        StoneWorks x = new StoneWorks();
        due("7 thick 0", x.layer(0, 1), BAD);
        due("7 thick 11", x.layer(11, 1), BAD);
        due("7 weight 0", x.layer(1, 0), BAD);
        due("7 weight 60001", x.layer(1, 60001), BAD);
        for (int n = 0; n < 6; n++) {
            due("7 number " + n, x.layer(n + 1, 60000 - n), n);
        }
        due("7 full", x.layer(1, 1), FULL);
        due("7 BAD ahead of FULL", x.layer(0, 1), BAD);
        due("7 still six", x.count(1), 6);
        due("7 thick of the last", x.told(5, 5), 6);
        due("7 weight of the last", x.told(5, 6), 59995);
        due("7 most thick", new StoneWorks().layer(10, 1), 0);
    }

    private static void p8Relay() {
        StoneWorks x = new StoneWorks();
        due("8 none there", x.relay(0, 1, 1), BAD);
        x.layer(1, 1);
        x.layer(2, 2);
        due("8 relay", x.relay(1, 10, 60000), 1);
        due("8 thick", x.told(1, 5), 10);
        due("8 weight", x.told(1, 6), 60000);
        due("8 the other", x.told(0, 6), 1);
        due("8 layer 2", x.relay(2, 1, 1), BAD);
        due("8 layer -1", x.relay(-1, 1, 1), BAD);
        due("8 thick 0", x.relay(0, 0, 1), BAD);
        due("8 thick 11", x.relay(0, 11, 1), BAD);
        due("8 weight 0", x.relay(0, 1, 0), BAD);
        due("8 weight 60001", x.relay(0, 1, 60001), BAD);
        due("8 as it was", x.told(0, 5), 1);
    }

    private static void p9Told() {
        StoneWorks x = new StoneWorks();
        due("9 the wall needs no layer", x.told(MIN, 0), 20);
        due("9 what -1", x.told(0, -1), BAD);
        due("9 thick of none", x.told(0, 5), BAD);
        x.layer(1, 30);
        due("9 innermost holds", x.told(0, 7), 1);
        x.layer(2, 2);
        due("9 15 times: holds", x.told(0, 7), 1);
        x.relay(0, 1, 31);
        due("9 more than 15 times", x.told(0, 7), 0);
        x.relay(0, 1, 2);
        due("9 as heavy", x.told(0, 7), 0);
        x.relay(0, 1, 3);
        due("9 just heavier", x.told(0, 7), 1);
        due("9 layer 2", x.told(2, 5), BAD);
        due("9 layer -1", x.told(-1, 7), BAD);
        due("9 what 8", x.told(0, 8), BAD);
        due("9 what MAX", x.told(0, MAX), BAD);
    }

    private static void p10Wide() {
        StoneWorks x = new StoneWorks();
        due("10 at the ground", x.wide(0, 0), 66);
        due("10 k 1 without layers", x.wide(1, 0), BAD);
        due("10 k -1", x.wide(-1, 0), BAD);
        due("10 h -1", x.wide(0, -1), BAD);
        due("10 h CREST", x.wide(0, 20), BAD);
        x.layer(3, 1);
        x.wall(2, 7);
        due("10 each is cut by itself", x.wide(1, 0), 6 + 28 - 10);
        due("10 at 1", x.wide(1, 1), 6 + 26 - 10);
        due("10 below CREST - T", x.wide(1, 16), 6 + 5 - 10);
        due("10 at CREST - T", x.wide(1, 17), 0);
        x.wall(1, 50);
        due("10 wide, yet at CREST - T", x.wide(1, 17), 0);
        due("10 wide below CREST - T", x.wide(1, 16), 45);
        x.wall(1, 1);
        due("10 no less than 0", x.wide(1, 15), 0);
        due("10 k 2", x.wide(2, 0), BAD);
        x.wall(0, 1);
        due("10 all layers above", x.wide(1, 0), 0);
        due("10 h 1 of CREST 1", x.wide(0, 1), BAD);
    }

    private static void p11Volume() {
        StoneWorks x = new StoneWorks();
        due("11 core alone", x.volume(0), 7500);
        due("11 all", x.volume(NONE), 7500);
        due("11 layer 1", x.volume(1), BAD);
        due("11 layer -1", x.volume(-1), BAD);
        due("11 BAD as a layer", x.volume(BAD), BAD);
        x.layer(2, 100);
        x.wall(0, 3);
        x.wall(1, 4);
        x.wall(2, 10);
        x.wall(3, 7);
        due("11 of the layer", x.volume(0), 7 * (8 + 8 + 6));
        due("11 of the core", x.volume(1), 7 * 2);
        due("11 of all", x.volume(NONE), 7 * 24);
        x.layer(10, 1);
        due("11 a layer no cut has left to", x.volume(1), 14);
        due("11 core is none", x.volume(2), 0);
        x.wall(0, 100);
        x.wall(1, 50);
        x.wall(2, 60);
        x.wall(3, 1000);
        due("11 most", x.volume(NONE), 1000 * (50 * 100 + 12 * 5050));
        checkThreeLayers();
    }

    private static void checkThreeLayers() {
        StoneWorks x = new StoneWorks();
        x.layer(2, 6000);
        x.layer(1, 500);
        x.layer(3, 20);
        due("10 without three", x.wide(3, 0), 6 + 60 - 30);
        int[] volumes = {2010, 900, 2250, 2340};
        for (int layer = 0; layer < volumes.length; layer++) {
            due("11 of three, " + layer, x.volume(layer), volumes[layer]);
        }
    }

    private static void p12Shared() {
        StoneWorks x = new StoneWorks();
        fill(x, 0, 1, 0, 40, 30, 20, 10, 30, 30, 30, 15, 15, 15);
        due("12 waste", x.shared(0, 1, NONE, 0), 10);
        int[][] due = {{30, 10, 0}, {0, 20, 10}, {0, 0, 20}, {0, 0, 0}};
        checkShares(x, "12 first", 0, 1, due);
        fill(x, 1, 0, 50, 50, 0, 0, 30, 60, 0, 3, 1, 15);
        due("12 least waste ahead of SORT 0", x.shared(1, 0, NONE, 2), 20);
        checkShares(x, "12 second", 1, 0, new int[][] {{0, 50, 0}, {30, 0, 0}, {0, 0, 0}, {0, 0, 0}});
        fill(x, 1, 2, 25, 25, 25, 25, 100, 100, 100, 0, 0, 0);
        due("12 none allowed", x.shared(1, 0, NONE, 0), 100);
        due("12 the first places", x.shared(1, 0, 3, 2), 0);
        checkSharedRefusals(x);
    }

    private static void checkShares(StoneWorks x, String what, int sheet, int i, int[][] due) {
        for (int sort = 0; sort < 4; sort++) {
            for (int k = 0; k < 3; k++) {
                due(what + " " + sort + " to " + k, x.shared(sheet, i, sort, k), due[sort][k]);
            }
        }
    }

    private static void checkSharedRefusals(StoneWorks x) {
        due("12 sheet 8", x.shared(8, 0, 0, 0), BAD);
        due("12 sort 4", x.shared(0, 1, 4, 0), BAD);
        due("12 sort -1", x.shared(0, 1, -1, 0), BAD);
        due("12 k 3", x.shared(0, 1, 0, 3), BAD);
        due("12 k -1", x.shared(0, 1, 0, -1), BAD);
        due("12 k of the waste", x.shared(0, 1, NONE, 3), BAD);
        due("12 missing", x.shared(5, 0, 0, 0), NULL);
        due("12 BAD ahead of NULL", x.shared(5, 0, 4, 0), BAD);
        due("12 i -1", x.shared(0, -1, 0, 0), PLACE);
        due("12 i 2", x.shared(0, 2, 0, 0), PLACE);
        due("12 i MAX", x.shared(0, MAX, 0, 0), PLACE);
        due("12 adding up to 70", x.shared(0, 0, 0, 0), BAD);
        fill(x, 2, 1, -10, 110, 0, 0, 30, 30, 30, 15, 15, 15);
        due("12 a sort below 0", x.shared(2, 0, 0, 0), BAD);
        fill(x, 2, 1, 0, 0, 0, 100, 0, 101, 0, 15, 15, 15);
        due("12 a need above 100", x.shared(2, 0, 0, 0), BAD);
        fill(x, 2, 1, 0, 0, 0, 100, 0, 100, -1, 15, 15, 15);
        due("12 a need below 0", x.shared(2, 0, 0, 0), BAD);
        fill(x, 2, 1, 0, 0, 0, 100, 0, 100, 0, 15, 15, 16);
        due("12 allowed 16", x.shared(2, 0, 0, 0), BAD);
        fill(x, 2, 1, 0, 0, 0, 100, 0, 100, 0, -1, 15, 15);
        due("12 allowed -1", x.shared(2, 0, 0, 0), BAD);
        fill(x, 2, 2, MAX, MAX, 102, 0, 0, 100, 0, 1, 15, 15);
        due("12 sorts that wrap around to 100", x.shared(2, 0, 0, 0), BAD);
    }

    private static void p13Lay() {
        StoneWorks x = new StoneWorks();
        due("13 nothing below", x.lay(1, 0), STATE);
        due("13 lay", x.lay(0, 3), 1);
        due("13 again", x.lay(0, 3), STATE);
        due("13 on one, right", x.lay(1, 2), STATE);
        due("13 on one, left", x.lay(1, 3), STATE);
        due("13 next", x.lay(0, 4), 1);
        due("13 on two", x.lay(1, 3), 1);
        due("13 last of row 0", x.lay(0, 11), 1);
        due("13 place 12", x.lay(0, 12), BAD);
        due("13 row 1, place 11", x.lay(1, 11), BAD);
        due("13 row 7, place 4", x.lay(7, 4), STATE);
        due("13 row 7, place 5", x.lay(7, 5), BAD);
        due("13 row 8", x.lay(8, 0), BAD);
        due("13 row -1", x.lay(-1, 0), BAD);
        due("13 place -1", x.lay(0, -1), BAD);
        due("13 far off", x.lay(MIN, MAX), BAD);
        due("13 they lie", x.count(4), 4);
    }

    private static void p14Lift() {
        StoneWorks x = new StoneWorks();
        due("14 none there", x.lift(0, 0), STATE);
        x.lay(0, 0);
        x.lay(0, 1);
        x.lay(0, 2);
        x.lay(1, 1);
        due("14 under its left", x.lift(0, 1), STATE);
        due("14 under its right", x.lift(0, 2), STATE);
        due("14 aside", x.lift(0, 0), 1);
        due("14 the upper one", x.lift(1, 1), 1);
        due("14 free now", x.lift(0, 2), 1);
        due("14 count", x.count(4), 1);
        due("14 laid again", x.lay(0, 2), 1);
        due("14 row 8", x.lift(8, 0), BAD);
        due("14 row 7, place 5", x.lift(7, 5), BAD);
        due("14 place -1", x.lift(0, -1), BAD);
        buildAll(x);
        due("14 all lie", x.count(4), 68);
        due("14 row 6 under row 7, right", x.lift(6, 5), STATE);
        due("14 row 6 under row 7, left", x.lift(6, 0), STATE);
        due("14 topmost", x.lift(7, 4), 1);
        due("14 last of row 6", x.lift(6, 5), 1);
    }

    private static void buildAll(StoneWorks x) {
        for (int row = 0; row < 8; row++) {
            for (int place = 0; place < 12 - row; place++) {
                x.lay(row, place);
            }
        }
    }

    private static void p15Reaches() {
        StoneWorks x = new StoneWorks();
        due("15 where it stands", x.reaches(4, 0, 0, 4), 1);
        due("15 next to it", x.reaches(4, 0, 0, 5), 0);
        due("15 row by 2 is cut", x.reaches(2, 3, 3, 1), 1);
        due("15 one less", x.reaches(2, 2, 3, 1), 0);
        due("15 on the left", x.reaches(11, 11, 0, 0), 1);
        due("15 not so far", x.reaches(11, 10, 0, 0), 0);
        due("15 most", x.reaches(0, 30, 7, 4), 1);
        due("15 c -1", x.reaches(-1, 5, 0, 0), BAD);
        due("15 c 12", x.reaches(12, 5, 0, 0), BAD);
        due("15 reach -1", x.reaches(0, -1, 0, 0), BAD);
        due("15 reach 31", x.reaches(0, 31, 0, 0), BAD);
        due("15 row 8", x.reaches(0, 5, 8, 0), BAD);
        due("15 place 12", x.reaches(0, 5, 0, 12), BAD);
        due("15 row 7, place 5", x.reaches(0, 5, 7, 5), BAD);
    }

    private static void p16Order() {
        StoneWorks x = new StoneWorks();
        due("16 all", x.order(5, 30, 8), 68);
        due("16 nothing is laid by it", x.count(4), 0);
        due("16 row 0", x.order(0, 2, 1), 3);
        due("16 two rows", x.order(0, 2, 2), 5);
        due("16 none of row 2 is near", x.order(0, 2, 8), 5);
        x.lay(0, 3);
        due("16 what lies bears", x.order(0, 3, 2), 3 + 3);
        due("16 c -1", x.order(-1, 5, 1), BAD);
        due("16 c 12", x.order(12, 5, 1), BAD);
        due("16 reach -1", x.order(0, -1, 1), BAD);
        due("16 reach 31", x.order(0, 31, 1), BAD);
        due("16 m 0", x.order(0, 5, 0), BAD);
        due("16 m 9", x.order(0, 5, 9), BAD);
        buildAll(x);
        due("16 none is left", x.order(5, 30, 8), 0);
    }

    private static void p17Planned() {
        StoneWorks x = new StoneWorks();
        fill(x, 0, 0, 99, 2, 0, 20, 1);
        due("17 first", x.planned(0, 2, 2, 0, 1, 4, 0, 0), 0);
        due("17 second", x.planned(0, 2, 2, 0, 1, 4, 0, 1), 0);
        due("17 a day without", x.planned(0, 2, 2, 0, 1, 4, 0, 2), 2);
        due("17 next row", x.planned(0, 2, 2, 0, 1, 4, 1, 1), 2);
        due("17 too few days", x.planned(0, 2, 2, 0, 1, 2, 1, 1), NONE);
        due("17 out of reach", x.planned(0, 2, 2, 0, 1, 4, 0, 3), NONE);
        due("17 above m", x.planned(0, 2, 1, 0, 1, 4, 1, 0), NONE);
        due("17 nothing is laid by it", x.count(4), 0);
        x.lay(0, 0);
        due("17 it lies", x.planned(0, 2, 2, 0, 1, 4, 0, 0), NONE);
        due("17 the others come earlier", x.planned(0, 2, 2, 0, 1, 4, 0, 2), 0);
        due("17 an ITEM above 20", x.planned(0, 2, 2, 0, 0, 2, 0, 0), BAD);
        x.set(0, 0, 21);
        due("17 an ITEM 21", x.planned(0, 2, 2, 0, 0, 1, 0, 0), BAD);
        x.set(0, 0, -1);
        due("17 an ITEM -1", x.planned(0, 2, 2, 0, 0, 1, 0, 0), BAD);
        x.set(0, 0, 20);
        due("17 an ITEM 20", x.planned(0, 2, 2, 0, 0, 1, 0, 1), 0);
        due("17 missing", x.planned(0, 2, 2, 1, 0, 1, 0, 0), NULL);
        due("17 beyond", x.planned(0, 2, 2, 0, 2, 4, 0, 0), PLACE);
        due("17 i -1", x.planned(0, 2, 2, 0, -1, 1, 0, 0), PLACE);
        due("17 i MAX", x.planned(0, 2, 2, 0, MAX, 20, 0, 0), PLACE);
        due("17 c 12", x.planned(12, 2, 2, 1, 0, 1, 0, 0), BAD);
        due("17 reach 31", x.planned(0, 31, 2, 1, 0, 1, 0, 0), BAD);
        due("17 m 0", x.planned(0, 2, 0, 1, 0, 1, 0, 0), BAD);
        due("17 m 9", x.planned(0, 2, 9, 1, 0, 1, 0, 0), BAD);
        due("17 sheet 8", x.planned(0, 2, 2, 8, 0, 1, 0, 0), BAD);
        due("17 n 0", x.planned(0, 2, 2, 1, 0, 0, 0, 0), BAD);
        due("17 n 21", x.planned(0, 2, 2, 1, 0, 21, 0, 0), BAD);
        due("17 row 8", x.planned(0, 2, 2, 1, 0, 1, 8, 0), BAD);
        due("17 place 12", x.planned(0, 2, 2, 1, 0, 1, 0, 12), BAD);
        x.sheet(2, 0, 20);
        due("17 n 20", x.planned(0, 2, 2, 2, 0, 20, 0, 1), NONE);
    }

    private static void p18Storm() {
        StoneWorks x = new StoneWorks();
        fill(x, 0, 1, 60, 5, 100, 12, 200, 18, 20, 0);
        due("18 harm", x.storm(0, 0, 4, 0), 77640);
        due("18 over", x.storm(0, 0, 4, 1), 1588);
        due("18 from i on", x.storm(0, 2, 1, 1), 144);
        x.layer(1, 27);
        due("18 D 3", x.storm(0, 2, 1, 0), (181 - 30) * (181 - 30) / 10);
        x.relay(0, 1, 28);
        due("18 D 4", x.storm(0, 2, 1, 0), (142 - 30) * (142 - 30) / 10);
        x.relay(0, 1, 60000);
        x.wall(2, 60);
        due("18 D 40", x.storm(0, 4, 1, 0), 0);
        x.wall(2, 15);
        due("18 D 40, slope 15", x.storm(0, 4, 1, 0), 0);
        x.wall(2, 14);
        due("18 N 35", x.storm(0, 4, 1, 0), 2);
        x.wall(0, 1);
        fill(x, 1, 1, 0, 100, 200, 100);
        due("18 the sea above the crest", x.storm(1, 0, 1, 1), 9801);
        due("18 most", x.storm(1, 2, 1, 1), 1390 * 1390 / 100);
        due("18 each hour is cut", x.storm(1, 0, 2, 1), 9801 + 19321);
        checkStormRefusals(x);
    }

    private static void checkStormRefusals(StoneWorks x) {
        due("18 sheet 8", x.storm(8, 0, 1, 0), BAD);
        due("18 n 0", x.storm(0, 0, 0, 0), BAD);
        due("18 n 49", x.storm(0, 0, 49, 0), BAD);
        due("18 what -1", x.storm(0, 0, 1, -1), BAD);
        due("18 what 2", x.storm(0, 0, 1, 2), BAD);
        due("18 missing", x.storm(2, 0, 1, 0), NULL);
        due("18 beyond", x.storm(0, 1, 4, 0), PLACE);
        due("18 half an hour", x.storm(0, 7, 1, 0), PLACE);
        due("18 i -1", x.storm(0, -1, 1, 0), PLACE);
        fill(x, 3, 1, 201, 0, 200, 101, -1, 0, 0, -1, 200, 100);
        for (int hour = 0; hour < 4; hour++) {
            due("18 hour " + hour, x.storm(3, 2 * hour, 1, 0), BAD);
            due("19 hour " + hour, x.design(3, 2 * hour, 1, 0, 0, 0), BAD);
        }
        due("18 the last hour", x.storm(3, 8, 1, 1), 19321);
        x.sheet(4, 0, 96);
        due("18 n 48", x.storm(4, 0, 48, 0), 0);
    }

    private static void p19Design() {
        StoneWorks x = new StoneWorks();
        fill(x, 0, 1, 60, 5, 100, 12, 200, 18, 20, 0);
        due("19 crest", x.design(0, 0, 4, 100, 100, 0), 48);
        due("19 weight", x.design(0, 0, 4, 100, 100, 1), 9261);
        due("19 cost", x.design(0, 0, 4, 100, 100, 2), 35486);
        due("19 any will do", x.design(0, 0, 4, 1000000, 1000000, 2), 15);
        x.layer(3, 59319);
        x.wall(0, 77);
        due("19 the wall as it is tells nothing", x.design(0, 0, 4, 100, 100, 0), 48);
        due("19 the wall stays", x.told(0, 0) + x.told(0, 6), 77 + 59319);
        x.wall(2, 1);
        due("19 none is heavy enough", x.design(0, 0, 4, 0, 0, 2), NONE);
        fill(x, 1, 1, 200, 100);
        x.wall(2, 60);
        due("19 none is high enough", x.design(1, 0, 1, 1000000, 0, 0), NONE);
        due("19 CREST 100", x.design(1, 0, 1, 1000000, 1600, 0), 100);
        due("19 not 99", x.design(1, 0, 1, 1000000, 1599, 0), NONE);
        checkDesignSizes(x);
        due("19 sheet 8", x.design(8, 0, 1, 0, 0, 0), BAD);
        due("19 n 0", x.design(2, 0, 0, 0, 0, 0), BAD);
        due("19 n 49", x.design(2, 0, 49, 0, 0, 0), BAD);
        due("19 harm -1", x.design(2, 0, 1, -1, 0, 0), BAD);
        due("19 harm 1000001", x.design(2, 0, 1, 1000001, 0, 0), BAD);
        due("19 over -1", x.design(2, 0, 1, 0, -1, 0), BAD);
        due("19 over 1000001", x.design(2, 0, 1, 0, 1000001, 0), BAD);
        due("19 what -1", x.design(2, 0, 1, 0, 0, -1), BAD);
        due("19 what 3", x.design(2, 0, 1, 0, 0, 3), BAD);
        due("19 missing", x.design(2, 0, 1, 0, 0, 0), NULL);
        due("19 beyond", x.design(0, 1, 4, 0, 0, 0), PLACE);
    }

    private static void checkDesignSizes(StoneWorks x) {
        x.wall(2, 10);
        fill(x, 3, 1, 133, 0, 136, 0, 160, 0, 8, 0);
        due("19 39 at most", x.design(3, 0, 1, 0, 1000000, 1), 59319);
        due("19 40 is none of them", x.design(3, 2, 1, 0, 1000000, 1), NONE);
        due("19 as much HARM as told", x.design(3, 4, 1, 10, 1000000, 1), 59319);
        due("19 less HARM told", x.design(3, 4, 1, 9, 1000000, 1), NONE);
        due("19 1 at least", x.design(3, 6, 1, 10, 1000000, 1), 1);
        due("19 not 1, but 2", x.design(3, 6, 1, 9, 1000000, 1), 8);
    }

    private static void p20Survey() {
        StoneWorks x = new StoneWorks();
        fill(x, 0, 0, 9, 9, 9, 9, 9, 9);
        fill(x, 1, 2, 9, 5, 5, 4, 5, 20, 0, 0);
        due("20 lost", x.survey(0, 1, 3, 2, 4, 0), 4);
        due("20 one more", x.survey(0, 1, 3, 2, 5, 0), 1);
        due("20 heaped", x.survey(0, 1, 3, 2, 11, 1), 1);
        due("20 not so high", x.survey(0, 1, 3, 2, 12, 1), 0);
        due("20 one patch", x.survey(0, 1, 3, 2, 4, 2), 1);
        due("20 how large", x.survey(0, 1, 3, 2, 4, 3), 4);
        due("20 2 by 3", x.survey(0, 1, 2, 3, 4, 2), 1);
        fill(x, 2, 0, 0, 9, 9, 0, 0, 9);
        due("20 not by corners", x.survey(0, 2, 2, 3, 1, 2), 3);
        due("20 each is one", x.survey(0, 2, 2, 3, 1, 3), 1);
        due("20 the largest", x.survey(0, 2, 1, 6, 1, 3), 2);
        due("20 rows are w wide", x.survey(0, 2, 3, 2, 1, 2), 1);
        due("20 1 by 6", x.survey(0, 2, 1, 6, 1, 2), 2);
        fill(x, 2, 0, 9, 9, 0, 0, 9, 9);
        due("20 no row goes on in the next", x.survey(0, 2, 3, 2, 1, 2), 2);
        fill(x, 2, 0, 0, 9, 0, 0, 0, 0);
        due("20 up to the row ahead", x.survey(0, 2, 3, 2, 1, 3), 5);
        due("20 it is one patch", x.survey(0, 2, 3, 2, 1, 2), 1);
        due("20 none", x.survey(0, 0, 3, 2, 1, 3), 0);
        due("20 no patches", x.survey(0, 0, 3, 2, 1, 2), 0);
        fill(x, 3, 2, MAX, MIN);
        fill(x, 4, 2, MIN, MAX);
        due("20 farther apart than an int", x.survey(3, 4, 2, 1, 1000, 0), 1);
        due("20 farther apart, up", x.survey(3, 4, 2, 1, 1000, 1), 1);
        x.sheet(5, 0, 100);
        fill(x, 6, 0, new int[100]);
        for (int i = 0; i < 100; i++) {
            x.set(6, i, -1);
        }
        due("20 all are one", x.survey(5, 6, 10, 10, 1, 3), 100);
        checkSurveyRefusals(x);
    }

    private static void checkSurveyRefusals(StoneWorks x) {
        due("20 a 8", x.survey(8, 0, 1, 1, 1, 0), BAD);
        due("20 b -1", x.survey(0, -1, 1, 1, 1, 0), BAD);
        due("20 w 0", x.survey(0, 1, 0, 1, 1, 0), BAD);
        due("20 w 11", x.survey(0, 1, 11, 1, 1, 0), BAD);
        due("20 h 0", x.survey(0, 1, 1, 0, 1, 0), BAD);
        due("20 h 11", x.survey(0, 1, 1, 11, 1, 0), BAD);
        due("20 s 0", x.survey(0, 1, 1, 1, 0, 0), BAD);
        due("20 s 1001", x.survey(0, 1, 1, 1, 1001, 0), BAD);
        due("20 what -1", x.survey(0, 1, 1, 1, 1, -1), BAD);
        due("20 what 4", x.survey(0, 1, 1, 1, 1, 4), BAD);
        due("20 a missing", x.survey(7, 0, 1, 1, 1, 0), NULL);
        due("20 b missing", x.survey(0, 7, 10, 10, 1, 0), NULL);
        due("20 a too short", x.survey(0, 1, 4, 2, 1, 0), PLACE);
        due("20 b too short", x.survey(1, 0, 4, 2, 1, 0), PLACE);
    }

    private static void p21Wave() {
        StoneWorks x = new StoneWorks();
        due("21 at the mouth", x.wave(5, 4, 5, 1000, 0, 0, 0), 1000);
        due("21 at the far end", x.wave(5, 4, 5, 1000, 0, 5, 4), 100);
        due("21 bounces", x.wave(5, 4, 5, 1000, 1, 5, 2), 216);
        due("21 cut each time", x.wave(1, 1, 3, 9, 1, 0, 0), 9);
        due("21 cut each time, not at the end", x.wave(1, 1, 9, 7, 1, 0, 0), 7 + 4 + 4 * 0);
        due("21 the least size", x.wave(5, 4, 10, 1, 0, 0, 0), 1);
        due("21 most", x.wave(50, 50, 10, 1000000, 4, 25, 25), 238557);
        due("21 w 0", x.wave(0, 4, 5, 1000, 1, 0, 0), BAD);
        due("21 w 51", x.wave(51, 4, 5, 1000, 1, 0, 0), BAD);
        due("21 h 0", x.wave(5, 0, 5, 1000, 1, 0, 0), BAD);
        due("21 h 51", x.wave(5, 51, 5, 1000, 1, 0, 0), BAD);
        due("21 b -1", x.wave(5, 4, -1, 1000, 1, 0, 0), BAD);
        due("21 b 11", x.wave(5, 4, 11, 1000, 1, 0, 0), BAD);
        due("21 size 0", x.wave(5, 4, 5, 0, 1, 0, 0), BAD);
        due("21 size 1000001", x.wave(5, 4, 5, 1000001, 1, 0, 0), BAD);
        due("21 k -1", x.wave(5, 4, 5, 1000, -1, 0, 0), BAD);
        due("21 k 5", x.wave(5, 4, 5, 1000, 5, 0, 0), BAD);
        due("21 x -1", x.wave(5, 4, 5, 1000, 1, -1, 0), BAD);
        due("21 x above w", x.wave(5, 4, 5, 1000, 1, 6, 0), BAD);
        due("21 y -1", x.wave(5, 4, 5, 1000, 1, 0, -1), BAD);
        due("21 y above h", x.wave(5, 4, 5, 1000, 1, 0, 5), BAD);
    }

    private static void p22Calm() {
        StoneWorks x = new StoneWorks();
        fill(x, 0, 0, 0, 0, 5, 4, 2, 2, 5, 4);
        due("22 the calmest", x.calm(5, 4, 5, 0, 0, 4), 1);
        due("22 from i on", x.calm(5, 4, 5, 0, 4, 2), 1);
        due("22 one", x.calm(5, 4, 5, 0, 0, 1), 0);
        due("22 of several the first", x.calm(5, 4, 0, 0, 2, 3), 0);
        checkCalmImages(x);
        due("22 x above w", x.calm(4, 4, 5, 0, 0, 4), BAD);
        due("22 y above h", x.calm(5, 3, 5, 0, 0, 4), BAD);
        due("22 only places told", x.calm(4, 3, 5, 0, 0, 1), 0);
        fill(x, 1, 0, -1, 0, 0, -1);
        due("22 x -1", x.calm(5, 4, 5, 1, 0, 1), BAD);
        due("22 y -1", x.calm(5, 4, 5, 1, 2, 1), BAD);
        due("22 w 0", x.calm(0, 4, 5, 2, 0, 1), BAD);
        due("22 w 51", x.calm(51, 4, 5, 2, 0, 1), BAD);
        due("22 h 0", x.calm(5, 0, 5, 2, 0, 1), BAD);
        due("22 h 51", x.calm(5, 51, 5, 2, 0, 1), BAD);
        due("22 b -1", x.calm(5, 4, -1, 2, 0, 1), BAD);
        due("22 b 11", x.calm(5, 4, 11, 2, 0, 1), BAD);
        due("22 sheet 8", x.calm(5, 4, 5, 8, 0, 1), BAD);
        due("22 n 0", x.calm(5, 4, 5, 2, 0, 0), BAD);
        due("22 n 51", x.calm(5, 4, 5, 2, 0, 51), BAD);
        due("22 missing", x.calm(5, 4, 5, 2, 0, 1), NULL);
        due("22 beyond", x.calm(5, 4, 5, 0, 1, 4), PLACE);
        due("22 i -1", x.calm(5, 4, 5, 0, -1, 1), PLACE);
        x.sheet(2, 0, 100);
        due("22 n 50", x.calm(5, 4, 5, 2, 0, 50), 0);
    }

    /** Places of which images of k 1, or of k 3, would make the other one the calmest. */
    private static void checkCalmImages(StoneWorks x) {
        fill(x, 3, 0, 2, 1, 0, 2, 0, 0);
        due("22 no more than k 2", x.calm(2, 5, 10, 3, 0, 3), 0);
        due("22 no less than k 2", x.calm(2, 6, 10, 3, 0, 3), 1);
        fill(x, 3, 0, 0, 0, 1, 1, 0, 1, 5, 4, 2, 2);
        due("22 two ITEMS each", x.calm(5, 4, 5, 3, 0, 5), 3);
    }

    private static void p23Kind() {
        StoneWorks x = new StoneWorks();
        due("23 none there", x.kind(0), BAD);
        x.layer(1, 1000);
        due("23 armour with nothing within", x.kind(0), 2);
        x.relay(0, 1, 999);
        due("23 too light: cover", x.kind(0), 1);
        x.relay(0, 1, 1000);
        x.layer(1, 1000);
        due("23 does not hold: cover", x.kind(0), 1);
        due("23 innermost: under", x.kind(1), 3);
        x.layer(1, 10);
        due("23 holds not: loose", x.kind(1), 4);
        x.relay(1, 1, 150);
        due("23 holds: under", x.kind(1), 3);
        due("23 holds: armour", x.kind(0), 2);
        x.wall(4, 6);
        due("23 by FILTER", x.kind(0), 1);
        due("23 layer 3", x.kind(3), BAD);
        due("23 layer -1", x.kind(-1), BAD);
    }

    private static void p24As() {
        StoneWorks x = new StoneWorks();
        due("24 none there", x.as(0, 0), BAD);
        x.layer(1, 3000);
        x.layer(1, 300);
        x.layer(1, 10);
        x.layer(1, 5);
        int[][] due = {
            {3000, 3000, 3000, KIND, KIND},
            {300, KIND, KIND, KIND, 300},
            {10, KIND, KIND, 10, KIND},
            {5, KIND, KIND, 5, KIND},
        };
        checkAs(x, "24", due);
        x.relay(0, 1, 200);
        due("24 a cover as armour", x.as(0, 2), KIND);
        due("24 a cover as cover", x.as(0, 1), 200);
        due("24 layer 4", x.as(4, 0), BAD);
        due("24 layer -1", x.as(-1, 0), BAD);
        due("24 kind -1", x.as(0, -1), BAD);
        due("24 kind 5", x.as(0, 5), BAD);
    }

    private static void checkAs(StoneWorks x, String what, int[][] due) {
        for (int layer = 0; layer < due.length; layer++) {
            for (int kind = 0; kind < 5; kind++) {
                due(what + " " + layer + " as " + kind, x.as(layer, kind), due[layer][kind]);
                due(what + " status", x.status(), due[layer][kind] == KIND ? 3 : 0);
            }
        }
    }

    private static void p25Ask() {
        StoneWorks x = new StoneWorks();
        due("25 none there", x.ask(0, 0), BAD);
        x.layer(2, 3009);
        x.layer(3, 300);
        x.layer(4, 10);
        checkAsk(x, "25 armour, worth", 0, 0, 2 + 15 + 1300, 12, 11, 10, 22, 21, 20);
        checkAsk(x, "25 armour, mark", 0, 1, 1300, 22, 21, 20);
        checkAsk(x, "25 loose, worth", 1, 0, 3 - 300, 13, 10, 20);
        checkAsk(x, "25 loose, mark", 1, 1, 300, 20);
        checkAsk(x, "25 under, worth", 2, 0, 4, 10);
        checkAsk(x, "25 under, mark", 2, 1, 14, 23, 20, 10);
        x.relay(0, 2, 209);
        x.wall(2, 60);
        checkAsk(x, "25 cover, worth", 0, 0, 62, 11, 10);
        checkAsk(x, "25 cover, mark", 0, 1, 20, 21, 20);
        due("25 layer 3", x.ask(3, 0), BAD);
        due("25 layer -1", x.ask(-1, 0), BAD);
        due("25 what 2", x.ask(0, 2), BAD);
        due("25 what -1", x.ask(0, -1), BAD);
        due("25 BAD leaves THE TRACE", x.trace(0), 21);
    }

    private static void checkAsk(StoneWorks x, String what, int layer, int ask, int due, int... trace) {
        due(what, x.ask(layer, ask), due);
        for (int i = 0; i < 16; i++) {
            due(what + ", trace " + i, x.trace(i), i < trace.length ? trace[i] : NONE);
        }
    }

    private static void p26Trace() {
        StoneWorks x = new StoneWorks();
        due("26 empty at first", x.trace(0), NONE);
        x.layer(1, 1000);
        x.ask(0, 0);
        due("26 the first", x.trace(0), 12);
        due("26 the last", x.trace(5), 20);
        due("26 beyond", x.trace(6), NONE);
        due("26 -1", x.trace(-1), NONE);
        due("26 16", x.trace(16), NONE);
        due("26 MAX", x.trace(MAX), NONE);
        due("26 MIN", x.trace(MIN), NONE);
        x.relay(0, 1, 1);
        x.kind(0);
        due("26 it stays until the next ask", x.trace(0), 12);
        x.ask(0, 1);
        due("26 anew", x.trace(0), 21);
        due("26 shorter now", x.trace(2), NONE);
    }

    private static void p27Count() {
        StoneWorks x = new StoneWorks();
        x.sheet(0, 0, 0);
        x.sheet(7, 0, 1);
        x.layer(1, 3000);
        x.layer(1, 300);
        x.layer(1, 10);
        x.layer(1, 10);
        x.layer(1, 5);
        x.lay(0, 0);
        due("27 sheets", x.count(0), 2);
        due("27 layers", x.count(1), 5);
        due("27 that hold", x.count(2), 3);
        due("27 loose", x.count(3), 2);
        due("27 blocks", x.count(4), 1);
        due("27 places", x.count(5), 68);
        x.relay(0, 1, 60000);
        due("27 an outermost one that holds not is not loose", x.count(3), 2);
        due("27 that hold, one less", x.count(2), 2);
        due("27 what 6", x.count(6), BAD);
        due("27 what -1", x.count(-1), BAD);
    }

    private static void p28Status() {
        StoneWorks x = new StoneWorks();
        due("28 at first", x.status(), 0);
        x.drop(0);
        due("28 NULL", x.status(), 1);
        due("28 it stays", x.status(), 1);
        x.drop(8);
        due("28 BAD leaves it", x.status(), 1);
        x.wall(0, 20);
        x.lay(1, 0);
        x.layer(1, 2000);
        x.ask(0, 0);
        x.kind(0);
        x.wave(1, 1, 1, 1, 1, 1, 1);
        due("28 calls without a SHEET leave it", x.status(), 1);
        x.sheet(0, 2, 2);
        due("28 none now", x.status(), 0);
        x.set(0, 5, 0);
        due("28 PLACE", x.status(), 2);
        x.as(0, 0);
        due("28 as", x.status(), 0);
        x.as(0, 4);
        due("28 KIND", x.status(), 3);
        x.sheet(0, 0, -1);
        due("28 SIZE", x.status(), 4);
        x.sheet(1, 0, 2);
        x.copy(0, 0, 1, 0, 1);
        due("28 STORE", x.status(), 5);
        x.set(0, 0, PLACE);
        due("28 an ITEM like a FINDING is none", x.status(), 0);
        x.drop(2);
        x.set(0, 0, BAD);
        due("28 an ITEM like BAD was not refused", x.status(), 0);
        checkStatusOfSheetCalls(x);
    }

    private static void checkStatusOfSheetCalls(StoneWorks x) {
        fill(x, 0, 1, 20, 30, 25, 25, 1, 1, 1, 15, 15, 15);
        for (int call = 0; call < 6; call++) {
            callWithSheet(x, call, 5);
            due("28 NULL of call " + call, x.status(), 1);
            callWithSheet(x, call, 8);
            due("28 BAD of call " + call, x.status(), 1);
            callWithSheet(x, call, 0);
            due("28 none of call " + call, x.status(), 0);
        }
        x.drop(5);
        x.storm(0, 0, 1, 0);
        due("28 storm", x.status(), 0);
        x.drop(5);
        x.set(0, 0, -1);
        x.drop(5);
        for (int call = 0; call < 5; call++) {
            callWithSheet(x, call, 0);
            due("28 a BAD ITEM leaves it, call " + call, x.status(), 1);
        }
    }

    private static void callWithSheet(StoneWorks x, int call, int sheet) {
        switch (call) {
            case 0 -> x.shared(sheet, 0, NONE, 0);
            case 1 -> x.planned(0, 1, 1, sheet, 0, 1, 0, 0);
            case 2 -> x.storm(sheet, 0, 1, 0);
            case 3 -> x.design(sheet, 0, 1, 9, 9, 0);
            case 4 -> x.calm(50, 50, 5, sheet, 0, 1);
            default -> x.survey(sheet, sheet, 1, 1, 1, 0);
        }
    }
}
