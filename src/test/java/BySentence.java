import java.io.IOException;
import java.util.Arrays;
import java.util.function.Supplier;

/** What tests that go by the document's sentences share: quotes, bounds, objects in some state. */
abstract class BySentence {
    static final int NONE = -1000000;
    static final int BAD = -1000001;
    static final int STATE = -1000002;
    static final int FULL = -1000003;
    static final int NULL = -1000011;
    static final int PLACE = -1000012;
    static final int KIND = -1000013;
    static final int SIZE = -1000014;
    static final int STORE = -1000015;
    static final int MIN = Integer.MIN_VALUE;
    static final int MAX = Integer.MAX_VALUE;

    private final Check check;
    private final Quotes quotes;
    private String said = "";
    private int checks = 1;

    BySentence(String name) throws IOException {
        check = new Check(name);
        quotes = new Quotes(check);
    }

    final void in(String section) {
        quotes.open(section);
    }

    /** The words of the document that the checks from here on are for. */
    final void says(String words) {
        endSentence();
        said = words;
        checks = 0;
        quotes.quote(words);
    }

    private void endSentence() {
        check.due("\"" + said + "\" has a check", checks > 0);
    }

    final void due(String what, long got, long want) {
        checks++;
        check.due("\"" + said + "\" " + what, got, want);
    }

    final void due(String what, boolean holds) {
        due(what, holds ? 1 : 0, 1);
    }

    final void finish(String sections) {
        endSentence();
        quotes.finish(sections);
        check.finish();
    }

    /** Argument number at of a call is as told from least to most, and BAD beyond. */
    final void bounds(Supplier<StoneWorks> made, int at, int least, int most, String name, int... a) {
        for (int v : new int[] {least, most}) {
            long got = callWith(made, at, v, name, a);
            due(name + ", argument " + at + " as " + v + " is not BAD", got != BAD);
        }
        for (int v : new int[] {least - 1, most + 1, MIN, MAX}) {
            due(name + ", argument " + at + " as " + v, callWith(made, at, v, name, a), BAD);
        }
    }

    private static long callWith(Supplier<StoneWorks> made, int at, int v, String name, int[] a) {
        int[] changed = a.clone();
        changed[at] = v;
        return Calls.answer(made.get(), name, changed);
    }

    static void fill(StoneWorks x, int sheet, int lane, int... items) {
        x.sheet(sheet, lane, items.length);
        for (int i = 0; i < items.length; i++) {
            x.set(sheet, i, items[i]);
        }
    }

    /** An object whose SHEET 0 has these ITEMS. */
    static StoneWorks withItems(int lane, int... items) {
        StoneWorks x = new StoneWorks();
        fill(x, 0, lane, items);
        return x;
    }

    /** An object with LAYERS of these WEIGHTS, each 1 THICK. */
    static StoneWorks withLayers(int... weights) {
        StoneWorks x = new StoneWorks();
        for (int weight : weights) {
            x.layer(1, weight);
        }
        return x;
    }

    /** An object with a wall of these measures, in the order of wall(). */
    static StoneWorks withWall(int crest, int top, int slope, int length) {
        StoneWorks x = new StoneWorks();
        x.wall(0, crest);
        x.wall(1, top);
        x.wall(2, slope);
        x.wall(3, length);
        return x;
    }

    static void layRow(StoneWorks x, int row, int from, int to) {
        for (int place = from; place <= to; place++) {
            x.lay(row, place);
        }
    }

    /** An object whose rows 0 to rows - 1 are full. */
    static StoneWorks withRows(int rows) {
        StoneWorks x = new StoneWorks();
        for (int row = 0; row < rows; row++) {
            layRow(x, row, 0, 11 - row);
        }
        return x;
    }

    /** ITEMS are told by no call: they are held to a SURVEY, SHEET 7, that is as due. */
    static boolean hasItems(StoneWorks x, int sheet, int... items) {
        fill(x, 7, 2, items);
        int w = Math.min(items.length, 10);
        int h = items.length / w;
        boolean isSame = x.survey(sheet, 7, w, h, 1, 0) == 0 && x.survey(sheet, 7, w, h, 1, 1) == 0;
        return isSame && x.set(sheet, items.length, 0) == PLACE;
    }

    static int[] repeated(int v, int n) {
        int[] items = new int[n];
        Arrays.fill(items, v);
        return items;
    }
}
