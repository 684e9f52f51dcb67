import java.io.IOException;
import java.util.stream.IntStream;

/** Parts 2 to 6 of the document's terms, sentence by sentence. */
public final class PartsTest extends BySentence {
    private PartsTest() throws IOException {
        super("PartsTest");
    }

    public static void main(String[] args) throws IOException {
        PartsTest test = new PartsTest();
        test.quarry();
        test.allowed();
        test.sharing();
        test.rows();
        test.laying();
        test.reach();
        test.orders();
        test.plans();
        test.storms();
        test.harm();
        test.over();
        test.designs();
        test.surveys();
        test.harbours();
        test.images();
        test.calm();
        test.worth();
        test.mark();
        test.bodies();
        test.finish("Part [2-6]");
    }

    // ---- part 2

    private static StoneWorks quarry(int... items) {
        return withItems(1, items);
    }

    private void quarry() {
        in("Part 2");
        says("A QUARRY yields in 100 so many of each of 4 SORTS (adding up to 100).");
        for (int sort = 0; sort < 4; sort++) {
            StoneWorks x = quarry(0, 0, 0, 0, 100, 100, 100, 15, 15, 15);
            x.set(0, sort, 100);
            due("100 of SORT " + sort, x.shared(0, 0, sort, 0), 100);
            x.set(0, sort, 101);
            due("101 of SORT " + sort, x.shared(0, 0, sort, 0), BAD);
            x.set(0, sort, 99);
            due("99 of SORT " + sort, x.shared(0, 0, sort, 0), BAD);
            x.set(0, (sort + 1) % 4, 1);
            due("and 1 of the next", x.shared(0, 0, sort, 0), 99);
            x.set(0, sort, 101);
            x.set(0, (sort + 1) % 4, -1);
            due("101, and -1 of the next", x.shared(0, 0, sort, 0), BAD);
        }
        says("SORT s may go to LAYER k (NEEDS for LAYERS 0 to 2: volumes, 0 to 100 each, of 100 that are won)");
        for (int k = 0; k < 3; k++) {
            StoneWorks x = quarry(25, 25, 25, 25, 0, 0, 0, 15, 15, 15);
            due("no NEEDS", x.shared(0, 0, NONE, 0), 100);
            x.set(0, 4 + k, 100);
            due("all goes to LAYER " + k, x.shared(0, 0, NONE, 0), 0);
            due("SORT 3, too", x.shared(0, 0, 3, k), 25);
            x.set(0, 4 + k, 101);
            due("NEEDS 101 of LAYER " + k, x.shared(0, 0, NONE, 0), BAD);
            x.set(0, 4 + k, -1);
            due("NEEDS -1 of LAYER " + k, x.shared(0, 0, NONE, 0), BAD);
        }
    }

    private void allowed() {
        says("or be waste, if it is ALLOWED (bits by SORTS for each of the three).");
        for (int k = 0; k < 3; k++) {
            for (int sort = 0; sort < 4; sort++) {
                StoneWorks x = quarry(25, 25, 25, 25, 100, 100, 100, 0, 0, 0);
                due("none is ALLOWED: all is waste", x.shared(0, 0, NONE, 0), 100);
                x.set(0, 7 + k, 1 << sort);
                due("SORT " + sort + " to " + k, x.shared(0, 0, sort, k), 25);
                due("the others are waste", x.shared(0, 0, NONE, 0), 75);
                x.set(0, 7 + k, 15 - (1 << sort));
                due("all but SORT " + sort + " to " + k, x.shared(0, 0, sort, k), 0);
                due("it is waste", x.shared(0, 0, NONE, 0), 25);
            }
            StoneWorks x = quarry(25, 25, 25, 25, 100, 100, 100, 15, 15, 15);
            x.set(0, 7 + k, 16);
            due("a bit that no SORT has", x.shared(0, 0, NONE, 0), BAD);
            x.set(0, 7 + k, -1);
            due("all bits", x.shared(0, 0, NONE, 0), BAD);
        }
    }

    private void sharing() {
        says("SHARED: of all ways to give whole parts of SORTS to LAYERS, none more than it NEEDS,");
        StoneWorks x = quarry(50, 50, 0, 0, 49, 1, 1, 1, 1, 2);
        due("as much as it NEEDS", x.shared(0, 0, 0, 0), 49);
        due("the rest to the next", x.shared(0, 0, 0, 1), 1);
        due("1 of 50", x.shared(0, 0, 1, 2), 1);
        due("the others are waste", x.shared(0, 0, NONE, 0), 49);
        says("that with least waste;");
        x = quarry(50, 50, 0, 0, 50, 50, 0, 3, 1, 15);
        due("SORT 0 leaves LAYER 0 to SORT 1", x.shared(0, 0, 0, 0), 0);
        due("and goes to LAYER 1", x.shared(0, 0, 0, 1), 50);
        due("no waste", x.shared(0, 0, NONE, 0), 0);
        x = quarry(30, 30, 40, 0, 30, 30, 40, 3, 6, 5);
        due("in a ring: SORT 0 to LAYER 0", x.shared(0, 0, 0, 0), 30);
        due("SORT 1 to LAYER 1", x.shared(0, 0, 1, 1), 30);
        due("SORT 2 to LAYER 2", x.shared(0, 0, 2, 2), 40);
        says("of several that which gives SORT 0 the most to LAYER 0, then to 1, 2, then SORT 1 likewise, ..");
        x = quarry(40, 30, 20, 10, 30, 30, 30, 15, 15, 15);
        int[][] want = {{30, 10, 0}, {0, 20, 10}, {0, 0, 20}, {0, 0, 0}};
        for (int pair = 0; pair < 12; pair++) {
            int sort = pair / 3;
            due("SORT " + sort + " to " + pair % 3, x.shared(0, 0, sort, pair % 3), want[sort][pair % 3]);
        }
        x = quarry(10, 10, 10, 70, 10, 10, 10, 14, 7, 7);
        due("SORT 0 may not go to LAYER 0: to 1", x.shared(0, 0, 0, 1), 10);
        due("SORT 1 to LAYER 0", x.shared(0, 0, 1, 0), 10);
        due("SORT 2 to LAYER 2", x.shared(0, 0, 2, 2), 10);
        due("SORT 3 is waste", x.shared(0, 0, NONE, 0), 70);
    }

    // ---- part 3

    private void rows() {
        in("Part 3");
        says("LAYING: rows 0 .. 7 of places 0 .. 11:");
        due("row 0, place 0", new StoneWorks().lay(0, 0), 1);
        due("row 0, place 11", new StoneWorks().lay(0, 11), 1);
        bounds(StoneWorks::new, 0, 0, 7, "lay", 0, 0);
        bounds(StoneWorks::new, 1, 0, 11, "lay", 0, 0);
        says("row r has 12 - r places;");
        for (int row = 0; row <= 7; row++) {
            due("the last of row " + row, withRows(row).lay(row, 11 - row), 1);
            due("beyond row " + row, withRows(row).lay(row, 12 - row), BAD);
            bounds(StoneWorks::new, 3, 0, 11 - row, "reaches", 0, 0, row, 0);
        }
        due("all", withRows(8).count(4), 68);
        says("a BLOCK lies at most once at each.");
        StoneWorks x = withRows(1);
        due("at place 0", x.lay(0, 0), STATE);
        due("at place 11", x.lay(0, 11), STATE);
        due("none came", x.count(4), 12);
        x.lift(0, 0);
        due("there again", x.lay(0, 0), 1);
    }

    private void laying() {
        says("Place p of row r (above 0) is on p and p + 1 of the row below: a BLOCK can be laid there, if both have one, and none is there;");
        for (int row = 1; row <= 7; row++) {
            for (int place : new int[] {0, 11 - row}) {
                due("one stands below, row " + row, lessOne(row, place).lay(row, place), STATE);
                due("the other one, row " + row, lessOne(row, place + 1).lay(row, place), STATE);
                StoneWorks x = withRows(row);
                due("both, row " + row, x.lay(row, place), 1);
                due("one is there, row " + row, x.lay(row, place), STATE);
            }
        }
        due("row 0 is on nothing", new StoneWorks().lay(0, 5), 1);
        says("it can be lifted, if none lies on it.");
        for (int row = 0; row <= 6; row++) {
            StoneWorks x = withRows(row + 1);
            x.lay(row + 1, 1);
            due("on its right, row " + row, x.lift(row, 1), STATE);
            due("on its left, row " + row, x.lift(row, 2), STATE);
            due("none on it, row " + row, x.lift(row, 3), 1);
            due("at the start of row " + row, x.lift(row, 0), 1);
            due("at the end of row " + row, x.lift(row, 11 - row), 1);
            x.lift(row + 1, 1);
            due("none on it any more, row " + row, x.lift(row, 1), 1);
        }
        due("row 7 has none above", withRows(8).lift(7, 0), 1);
    }

    /** Rows below this one are full, but for a place of the one right below. */
    private static StoneWorks lessOne(int row, int place) {
        StoneWorks x = withRows(row);
        x.lift(row - 1, place);
        return x;
    }

    private void reach() {
        says("REACH: a crane that stands at place c reaches p of row r, if how far p + r by 2 is from c, and r, added, are no more than its REACH (0 to 30).");
        StoneWorks x = new StoneWorks();
        bounds(StoneWorks::new, 1, 0, 30, "reaches", 0, 0, 0, 0);
        for (int row = 0; row <= 7; row++) {
            for (int c = 0; c <= 11; c++) {
                int far = Math.abs(3 + row / 2 - c) + row;
                due("as far as REACH, row " + row + " from " + c, x.reaches(c, far, row, 3), 1);
                due("farther, row " + row + " from " + c, far > 0 ? x.reaches(c, far - 1, row, 3) : 0, 0);
            }
        }
        due("REACH 0", x.reaches(11, 0, 0, 11), 1);
        due("REACH 30", x.reaches(11, 30, 7, 0), 1);
    }

    private void orders() {
        says("A DAY has so many BLOCKS (0 to 20; by its tide).");
        itemBounds(0, 20, 0, "planned", 0, 30, 8, 0, 0, 1, 0, 0);
        due("a day of none", withItems(0, 0).planned(0, 30, 8, 0, 0, 1, 0, 0), NONE);
        due("a day of 20, the last of them", withItems(0, 20).planned(0, 30, 8, 0, 0, 1, 1, 7), 0);
        due("a day of 20, one more", withItems(0, 20).planned(0, 30, 8, 0, 0, 1, 1, 8), NONE);
        says("THE ORDER of laying: all places of rows 0 to m - 1 that have none yet");
        for (int m = 1; m <= 8; m++) {
            int all = IntStream.range(0, m).map(row -> 12 - row).sum();
            due("rows 0 to " + (m - 1), new StoneWorks().order(0, 30, m), all);
            due("all of them lie but one row", withRows(m - 1).order(0, 30, m), 13 - m);
            due("all of them lie", withRows(m).order(0, 30, m), 0);
        }
        says("and can be reached from c");
        for (int c = 0; c <= 11; c++) {
            due("REACH 0 from " + c, new StoneWorks().order(c, 0, 8), 1);
            due("REACH 1, row 0, from " + c, new StoneWorks().order(c, 1, 1), c == 0 || c == 11 ? 2 : 3);
        }
        due("just all", new StoneWorks().order(0, 14, 8), 68);
        due("all but the farthest two", new StoneWorks().order(0, 13, 8), 66);
        says("(and have, or get, what they are on):");
        StoneWorks x = new StoneWorks();
        due("they get it", x.order(0, 3, 2), 4 + 3);
        x.lay(0, 3);
        due("they have it, or get it", x.order(0, 3, 2), 3 + 3);
        layRow(x, 0, 0, 2);
        due("they have it", x.order(0, 3, 2), 3);
        due("nothing is laid by it", x.count(4), 4);
        says("the lowest row first, from place 0 on.");
        x = withItems(0, repeated(1, 20));
        int[][] order = {{0, 0}, {0, 1}, {0, 2}, {1, 0}, {1, 1}};
        for (int day = 0; day < order.length; day++) {
            due("BLOCK " + day, x.planned(0, 2, 8, 0, 0, 20, order[day][0], order[day][1]), day);
        }
    }

    private void plans() {
        says("THE PLAN by n days (1 to 20):");
        bounds(StoneWorks::new, 5, 1, 20, "planned", 0, 30, 8, 0, 0, 1, 0, 0);
        int[] tides = new int[21];
        tides[0] = 1;
        tides[19] = 1;
        StoneWorks x = withItems(0, tides);
        due("1 day", x.planned(0, 30, 8, 0, 0, 1, 0, 0), 0);
        due("19 days are too few", x.planned(0, 30, 8, 0, 0, 19, 0, 1), NONE);
        due("the last of 20", x.planned(0, 30, 8, 0, 0, 20, 0, 1), 19);
        says("they are laid in that order, as many a day as its tide has: on which day a place is laid.");
        x = withItems(0, 2, 0, 2, 1);
        int[] days = {0, 0, 2, 2, 3};
        for (int turn = 0; turn < days.length; turn++) {
            int row = turn < 3 ? 0 : 1;
            due("BLOCK " + turn, x.planned(0, 2, 2, 0, 0, 4, row, turn - 3 * row), days[turn]);
        }
        due("a day less", x.planned(0, 2, 2, 0, 0, 3, 1, 1), NONE);
        due("out of reach", x.planned(0, 2, 2, 0, 0, 4, 0, 3), NONE);
        due("above the rows", x.planned(0, 2, 1, 0, 0, 4, 1, 0), NONE);
        x.lay(0, 0);
        due("it lies", x.planned(0, 2, 2, 0, 0, 4, 0, 0), NONE);
        due("a turn earlier", x.planned(0, 2, 2, 0, 0, 4, 1, 1), 2);
    }

    // ---- part 4

    /** ITEM i of SHEET 0 is as told from least to most, and the call is BAD beyond. */
    private void itemBounds(int least, int most, int i, String name, int... a) {
        for (int v : new int[] {least, most}) {
            long got = Calls.answer(withItem(i, v), name, a);
            due(name + ", ITEM " + i + " as " + v + " is not BAD", got != BAD);
        }
        for (int v : new int[] {least - 1, most + 1, MIN, MAX}) {
            due(name + ", ITEM " + i + " as " + v, Calls.answer(withItem(i, v), name, a), BAD);
        }
    }

    private static StoneWorks withItem(int i, int v) {
        StoneWorks x = withItems(2, new int[100]);
        x.set(0, i, v);
        return x;
    }

    private static int harmOf(int n) {
        return (n - 30) * (n - 30) / 10;
    }

    private void storms() {
        in("Part 4");
        says("A STORM is a row of hours, each a wave (0 to 200 tenths)");
        for (int i : new int[] {0, 2, 94}) {
            itemBounds(0, 200, i, "storm", 0, 0, 48, 0);
            itemBounds(0, 200, i, "design", 0, 0, 48, 0, 0, 0);
        }
        says("and a sea level (0 to 100).");
        for (int i : new int[] {1, 3, 95}) {
            itemBounds(0, 100, i, "storm", 0, 0, 48, 1);
            itemBounds(0, 100, i, "design", 0, 0, 48, 0, 0, 0);
        }
        says("N of an hour: wave times 100 by (D SLOPE + 10), with D the least whole number of which D D D is WEIGHT of LAYER 0 or more");
        int[] weights = {1, 2, 8, 9, 27, 28, 999, 1000, 1001, 59319, 59320, 60000};
        int[] sizes = {1, 2, 2, 3, 3, 4, 10, 10, 11, 39, 40, 40};
        for (int n = 0; n < weights.length; n++) {
            StoneWorks x = withItems(1, 200, 0);
            x.wall(2, 1);
            x.layer(1, weights[n]);
            due("WEIGHT " + weights[n], x.storm(0, 0, 1, 0), harmOf(20000 / (sizes[n] + 10)));
            x.layer(1, 60000);
            due("LAYER 1 tells nothing", x.storm(0, 0, 1, 0), harmOf(20000 / (sizes[n] + 10)));
        }
        StoneWorks x = withItems(1, 200, 0);
        x.wall(2, 60);
        due("SLOPE 60", x.storm(0, 0, 1, 0), harmOf(20000 / 70));
        says("(1 without LAYERS).");
        x.wall(2, 1);
        due("SLOPE 1", x.storm(0, 0, 1, 0), harmOf(20000 / 11));
    }

    private void harm() {
        says("HARM: for each hour N above 30: (N - 30) (N - 30) by 10, added.");
        StoneWorks x = withItems(1, 9, 0, 9, 0, 9, 0, 0, 0, 6, 0);
        due("N 36, once", x.storm(0, 0, 1, 0), 3);
        due("N 36, three times, each cut", x.storm(0, 0, 3, 0), 9);
        due("N 0", x.storm(0, 6, 1, 0), 0);
        due("N 24", x.storm(0, 8, 1, 0), 0);
        due("all", x.storm(0, 0, 5, 0), 9);
        x.wall(2, 20);
        due("N 30", x.storm(0, 0, 1, 0), 0);
        x = withItems(1, 8, 0);
        x.wall(2, 13);
        due("N 34", x.storm(0, 0, 1, 0), 1);
        x.wall(2, 14);
        due("N 33", x.storm(0, 0, 1, 0), 0);
        int[] most = repeated(0, 96);
        for (int hour = 0; hour < 48; hour++) {
            most[2 * hour] = 200;
        }
        x = withItems(1, most);
        x.wall(2, 1);
        due("the most", x.storm(0, 0, 48, 0), 48 * harmOf(1818));
    }

    private void over() {
        says("OVER: for each hour by how much wave times 2 is above 10 (CREST - level) (0, if it is not), squared, by 100, added.");
        StoneWorks x = withItems(1, 75, 5, 80, 5, 50, 5, 79, 5, 0, 0);
        due("as high", x.storm(0, 0, 1, 1), 0);
        due("10 above", x.storm(0, 2, 1, 1), 1);
        due("50 below", x.storm(0, 4, 1, 1), 0);
        due("8 above", x.storm(0, 6, 1, 1), 0);
        due("all", x.storm(0, 0, 5, 1), 1);
        x = withItems(1, 0, 19, 0, 20, 0, 21, 6, 20, 6, 20, 6, 20);
        due("the sea below CREST", x.storm(0, 0, 1, 1), 0);
        due("the sea at CREST", x.storm(0, 2, 1, 1), 0);
        due("the sea above CREST", x.storm(0, 4, 1, 1), 1);
        due("12 above, three times, each cut", x.storm(0, 6, 3, 1), 3);
        int[] most = new int[96];
        for (int hour = 0; hour < 48; hour++) {
            most[2 * hour] = 200;
            most[2 * hour + 1] = 100;
        }
        x = withItems(1, most);
        x.wall(0, 1);
        due("the most", x.storm(0, 0, 48, 1), 48 * (1390 * 1390 / 100));
        x.wall(0, 100);
        due("CREST 100", x.storm(0, 0, 1, 1), 1600);
    }

    private void designs() {
        says("DESIGN for a STORM: of CRESTS 1 to 100");
        StoneWorks x = withItems(1, 0, 0, 0, 100, 5, 100, 0, 99);
        due("CREST 1", x.design(0, 0, 1, 0, 0, 0), 1);
        due("CREST 100", x.design(0, 2, 1, 0, 0, 0), 100);
        due("CREST 101 is none of them", x.design(0, 4, 1, 1000000, 0, 0), NONE);
        due("CREST 99", x.design(0, 6, 1, 0, 0, 0), 99);
        says("and WEIGHTS of LAYER 0 that are third powers of 1 to 39,");
        x = withItems(1, 6, 0, 133, 0, 136, 0, 10, 0);
        x.wall(2, 10);
        due("WEIGHT 1", x.design(0, 0, 1, 0, 1000000, 1), 1);
        due("WEIGHT 59319", x.design(0, 2, 1, 0, 1000000, 1), 59319);
        due("40 is none of them", x.design(0, 4, 1, 0, 1000000, 1), NONE);
        due("WEIGHT 8", x.design(0, 6, 1, 9, 1000000, 1), 8);
        x.layer(1, 60000);
        due("WEIGHT as it is tells nothing", x.design(0, 4, 1, 0, 1000000, 0), NONE);
        says("by which HARM and OVER are no more than told:");
        x = withItems(1, 10, 0);
        x.wall(2, 10);
        due("as much HARM", x.design(0, 0, 1, 40, 1000000, 1), 1);
        due("more HARM", x.design(0, 0, 1, 39, 1000000, 1), 8);
        x = withItems(1, 50, 0);
        due("as much OVER", x.design(0, 0, 1, 1000000, 81, 0), 1);
        due("more OVER", x.design(0, 0, 1, 1000000, 80, 0), 2);
        due("no OVER", x.design(0, 0, 1, 1000000, 0, 0), 10);
        says("that of least COST: CREST CREST SLOPE and WEIGHT by 10;");
        costs();
        says("of several the least CREST, then the least WEIGHT.");
        x = withItems(1, 0, 0);
        due("1 and 8 cost as much", x.design(0, 0, 1, 0, 0, 1), 1);
        due("the least CREST", x.design(0, 0, 1, 0, 0, 0), 1);
    }

    private void costs() {
        StoneWorks x = withItems(1, 133, 0, 0, 100, 0, 0);
        x.wall(2, 10);
        due("CREST 1, WEIGHT 59319", x.design(0, 0, 1, 0, 1000000, 2), 10 + 5931);
        due("CREST 26, WEIGHT 59319", x.design(0, 0, 1, 0, 0, 0), 26);
        due("their COST", x.design(0, 0, 1, 0, 0, 2), 26 * 26 * 10 + 5931);
        x.wall(2, 60);
        due("CREST 100, WEIGHT 1", x.design(0, 2, 1, 0, 0, 2), 600000);
        x.wall(2, 1);
        due("CREST 1, WEIGHT 1", x.design(0, 4, 1, 0, 0, 2), 1);
    }

    // ---- part 5

    private static StoneWorks withSurveys(int[] earlier, int[] later) {
        StoneWorks x = withItems(2, earlier);
        fill(x, 1, 2, later);
        return x;
    }

    private void surveys() {
        in("Part 5");
        says("SURVEYS: two grids of w by h heights (ITEMS).");
        StoneWorks x = withSurveys(new int[100], repeated(-1, 100));
        due("1 by 1", x.survey(0, 1, 1, 1, 1, 0), 1);
        due("10 by 10", x.survey(0, 1, 10, 10, 1, 0), 100);
        due("10 by 9", x.survey(0, 1, 10, 9, 1, 0), 90);
        due("9 by 10", x.survey(0, 1, 9, 10, 1, 0), 90);
        x = withSurveys(new int[6], new int[] {-1, 0, 0, -1, 0, 0});
        due("two rows of 3: one above the other", x.survey(0, 1, 3, 2, 1, 2), 1);
        due("three rows of 2: by corners", x.survey(0, 1, 2, 3, 1, 2), 2);
        says("LOST: places at which the later one is lower by s or more;");
        x = withSurveys(new int[] {10, 10, 10, 10}, new int[] {8, 7, 6, 13});
        due("by 3 or more", x.survey(0, 1, 4, 1, 3, 0), 2);
        due("by 4 or more", x.survey(0, 1, 4, 1, 4, 0), 1);
        due("by 5 or more", x.survey(0, 1, 4, 1, 5, 0), 0);
        x = withSurveys(new int[] {MAX, MIN, 0}, new int[] {MIN, MAX, MIN});
        due("farther than an int can tell", x.survey(0, 1, 3, 1, 1000, 0), 2);
        says("HEAPED: higher by s or more.");
        due("farther than an int can tell", x.survey(0, 1, 3, 1, 1000, 1), 1);
        x = withSurveys(new int[] {10, 10, 10, 10}, new int[] {12, 13, 14, 7});
        due("by 3 or more", x.survey(0, 1, 4, 1, 3, 1), 2);
        due("by 4 or more", x.survey(0, 1, 4, 1, 4, 1), 1);
        due("by 5 or more", x.survey(0, 1, 4, 1, 5, 1), 0);
        patches();
    }

    private void patches() {
        says("PATCHES: LOST places side by side (not by corners) are one: how many, how large the largest is.");
        int[] checkered = new int[100];
        for (int at = 0; at < 100; at++) {
            checkered[at] = (at / 10 + at) % 2 - 1;
        }
        StoneWorks x = withSurveys(new int[100], checkered);
        due("by corners alone: 50", x.survey(0, 1, 10, 10, 1, 2), 50);
        due("each is 1 large", x.survey(0, 1, 10, 10, 1, 3), 1);
        x = withSurveys(new int[100], repeated(-1, 100));
        due("all are one", x.survey(0, 1, 10, 10, 1, 2), 1);
        due("it is 100 large", x.survey(0, 1, 10, 10, 1, 3), 100);
        x = withSurveys(new int[9], new int[] {0, 0, -1, -1, 0, 0, 0, 0, -1});
        due("the end of a row is not beside the next one", x.survey(0, 1, 3, 3, 1, 2), 3);
        due("in one row it is", x.survey(0, 1, 9, 1, 1, 2), 2);
        due("in one row: the larger of 2 and 1", x.survey(0, 1, 9, 1, 1, 3), 2);
        due("in one column it is", x.survey(0, 1, 1, 9, 1, 3), 2);
        x = withSurveys(new int[9], new int[] {-1, 0, -1, -1, -1, -1, 0, 0, -1});
        due("a patch that turns up", x.survey(0, 1, 3, 3, 1, 3), 6);
        x = withSurveys(new int[9], new int[] {0, 0, -1, -1, -1, -1, -1, 0, 0});
        due("a patch that turns back", x.survey(0, 1, 3, 3, 1, 3), 5);
        due("it is one", x.survey(0, 1, 3, 3, 1, 2), 1);
        x = withSurveys(new int[9], new int[] {-1, 0, -1, -1, 0, -1, 0, 0, -1});
        due("the last may be the largest", x.survey(0, 1, 3, 3, 1, 3), 3);
        x = withSurveys(new int[9], new int[9]);
        due("none", x.survey(0, 1, 3, 3, 1, 2), 0);
        due("none is 0 large", x.survey(0, 1, 3, 3, 1, 3), 0);
    }

    private void harbours() {
        says("A HARBOUR w by h (1 to 50 each),");
        bounds(StoneWorks::new, 0, 1, 50, "wave", 1, 1, 5, 10, 1, 0, 0);
        bounds(StoneWorks::new, 1, 1, 50, "wave", 1, 1, 5, 10, 1, 0, 0);
        StoneWorks x = new StoneWorks();
        due("1 by 1, at the far corner", x.wave(1, 1, 0, 300, 0, 1, 1), 100);
        due("50 by 50, at the far corner", x.wave(50, 50, 0, 1010, 0, 50, 50), 10);
        says("its mouth at 0, 0,");
        due("at the mouth", x.wave(50, 50, 0, 1000, 0, 0, 0), 1000);
        says("walls that send back b of 10 (0 to 10).");
        bounds(StoneWorks::new, 2, 0, 10, "wave", 1, 1, 5, 10, 1, 0, 0);
        due("nothing", x.wave(1, 1, 0, 1000, 4, 0, 0), 1000);
        due("all", x.wave(1, 1, 10, 1000, 1, 0, 0), 1000 + 4 * 333 + 4 * 200);
        says("A wave of a size (1 to 1000000)");
        bounds(StoneWorks::new, 3, 1, 1000000, "wave", 1, 1, 5, 10, 1, 0, 0);
        due("the least", x.wave(1, 1, 0, 1, 0, 0, 0), 1);
        due("the least, one off", x.wave(1, 1, 0, 1, 0, 1, 0), 0);
        due("the most", x.wave(1, 1, 0, 1000000, 0, 0, 0), 1000000);
    }

    private void images() {
        StoneWorks x = new StoneWorks();
        says("comes to x, y by all images: for i, j from -k to k (k 0 to 4) from 2 i w, 2 j h:");
        bounds(StoneWorks::new, 4, 0, 4, "wave", 1, 1, 5, 10, 1, 0, 0);
        due("k 0", x.wave(1, 50, 10, 1000, 0, 0, 0), 1000);
        due("k 1", x.wave(1, 50, 10, 100, 1, 0, 0), 100 + 2 * 33);
        due("k 2", x.wave(1, 50, 10, 100, 2, 0, 0), 100 + 2 * 33 + 2 * 20);
        due("k 3", x.wave(1, 50, 10, 100, 3, 0, 0), 100 + 2 * 33 + 2 * 20 + 2 * 14);
        due("k 4", x.wave(1, 50, 10, 100, 4, 0, 0), 100 + 2 * 33 + 2 * 20 + 2 * 14 + 2 * 11);
        due("k 4, by j", x.wave(50, 1, 10, 100, 4, 0, 0), 100 + 2 * 33 + 2 * 20 + 2 * 14 + 2 * 11);
        says("size times (b by 10, cut each time) to the power of (twice the size of i, and twice that of j),");
        due("i alone: 99, 49, 24", x.wave(1, 50, 5, 99, 1, 0, 0), 99 + 2 * (24 / 3));
        due("j alone: 99, 49, 24", x.wave(50, 1, 5, 99, 1, 0, 0), 99 + 2 * (24 / 3));
        due("i and j: 999, 499, 249, 124, 62", x.wave(1, 1, 5, 999, 1, 0, 0), 999 + 4 * (249 / 3) + 4 * (62 / 5));
        due("9, 8, 7: cut each time", x.wave(1, 50, 9, 9, 1, 0, 0), 9 + 2 * (7 / 3));
        due("the most, sent back whole", x.wave(50, 1, 10, 1000000, 1, 0, 0),
                1000000 + 2 * (1000000 / 3) + 2 * (1000000 / 101) + 4 * (1000000 / 103));
        says("by (1 and how far x is from 2 i w, and y from 2 j h, added): all added.");
        due("at x 1 of 1", x.wave(1, 50, 10, 100, 1, 1, 0), 50 + 50 + 25);
        due("at y 1 of 1", x.wave(50, 1, 10, 100, 1, 0, 1), 50 + 50 + 25);
        due("both", x.wave(1, 1, 10, 100, 1, 1, 1), 4 * 33 + 4 * 20 + 14);
        due("far off: nothing is left", x.wave(50, 50, 10, 100, 0, 50, 50), 0);
        due("one nearer", x.wave(50, 50, 10, 100, 0, 50, 49), 1);
    }

    private void calm() {
        says("CALM: of places by ITEMS of rows (x, y) the one with the least, of several the first.");
        StoneWorks x = withItems(0, 0, 0, 3, 1, 1, 3, 5, 4, 5, 4);
        due("the first of two that are as calm", x.calm(5, 4, 0, 0, 0, 5), 3);
        due("x ahead of y: 3, 1 and 1, 3 as calm", x.calm(5, 4, 0, 0, 2, 2), 0);
        due("the last", x.calm(5, 4, 0, 0, 0, 4), 3);
        due("the first of one", x.calm(5, 4, 0, 0, 0, 1), 0);
        x = withItems(0, 5, 4, 0, 0);
        due("the first", x.calm(5, 4, 0, 0, 0, 2), 0);
        x = withItems(0, repeated(1, 100));
        due("50 that are as calm", x.calm(1, 1, 10, 0, 0, 50), 0);
        x.set(0, 98, 2);
        due("the last of 50", x.calm(2, 1, 0, 0, 0, 50), 49);
    }

    // ---- part 6

    private void asked(String what, StoneWorks x, int layer, int ask, int want, int... trace) {
        due(what, x.ask(layer, ask), want);
        for (int i = 0; i < 16; i++) {
            due(what + ", trace " + i, x.trace(i), i < trace.length ? trace[i] : NONE);
        }
    }

    private void worth() {
        in("Part 6");
        says("ASKS of LAYERS, by BODIES, each of which leaves its number in THE TRACE as it begins (the first 16):");
        StoneWorks x = withLayers(1000);
        asked("the longest has 6", x, 0, 0, 1 + 15 + 1100, 12, 11, 10, 22, 21, 20);
        due("number 16", x.trace(16), NONE);
        says("0 WORTH: 10 lent to all LAYERS: THICK.");
        x = new StoneWorks();
        x.layer(1, 5);
        x.layer(10, 5);
        asked("UNDER", x, 1, 0, 10, 10);
        says("11 of COVERS: what 10 gives, and SLOPE.");
        x = withLayers(999);
        x.wall(2, 60);
        asked("COVER, SLOPE 60", x, 0, 0, 1 + 60, 11, 10);
        x.wall(2, 1);
        x.relay(0, 10, 999);
        asked("COVER, SLOPE 1", x, 0, 0, 10 + 1, 11, 10);
        says("12 of ARMOUR: what 11 gives, and MARK.");
        asked("ARMOUR, the most", withLayers(60000), 0, 0, 1 + 15 + 7000, 12, 11, 10, 22, 21, 20);
        asked("ARMOUR, the least", withLayers(1000), 0, 0, 1 + 15 + 1100, 12, 11, 10, 22, 21, 20);
        says("13 of LOOSE ones: what 10 gives, less MARK.");
        asked("LOOSE, below 0", withLayers(1, 60000, 60000), 1, 0, 1 - 60000, 13, 10, 20);
        asked("LOOSE, 0", withLayers(1, 1, 1), 1, 0, 0, 13, 10, 20);
    }

    private void mark() {
        says("1 MARK: 20 lent to all LAYERS: WEIGHT.");
        asked("LOOSE", withLayers(1, 60000, 60000), 1, 1, 60000, 20);
        says("21 of COVERS: what 20 gives, by 10.");
        asked("COVER, 9", withLayers(9), 0, 1, 0, 21, 20);
        asked("COVER, 10", withLayers(10), 0, 1, 1, 21, 20);
        asked("COVER, 60000", withLayers(60000, 1), 0, 1, 6000, 21, 20);
        says("22 of ARMOUR: what 21 gives, and 1000.");
        asked("ARMOUR, 1009", withLayers(1009), 0, 1, 1100, 22, 21, 20);
        asked("ARMOUR, 60000", withLayers(60000), 0, 1, 7000, 22, 21, 20);
        says("23 of UNDER ones: what 20 gives, and WORTH.");
        asked("UNDER, 60000", withLayers(1, 60000), 1, 1, 60001, 23, 20, 10);
        asked("UNDER, 1", withLayers(1, 1), 1, 1, 2, 23, 20, 10);
    }

    private void bodies() {
        says("(Of an ask the BODY told for the KIND begins, else that of the nearest KIND that it is, too, else the one that is lent;");
        asked("told for ARMOUR", withLayers(1000), 0, 1, 1100, 22, 21, 20);
        asked("told for COVERS", withLayers(10), 0, 0, 16, 11, 10);
        asked("lent: WORTH of UNDER", withLayers(1, 2), 1, 0, 1, 10);
        asked("lent: MARK of LOOSE", withLayers(1, 2, 2), 1, 1, 2, 20);
        says("WORTH, MARK within others are asked of the same LAYER anew.)");
        StoneWorks x = withLayers(2000, 1000, 1000, 7);
        asked("MARK within 12 is that of ARMOUR", x, 0, 0, 1 + 15 + 1200, 12, 11, 10, 22, 21, 20);
        asked("MARK within 13 is that of LOOSE", x, 2, 0, 1 - 1000, 13, 10, 20);
        asked("WORTH within 23 is that of UNDER", x, 3, 1, 7 + 1, 23, 20, 10);
    }
}
