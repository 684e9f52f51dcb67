import java.util.ArrayList;
import java.util.Arrays;
import java.util.List;

/** A second program of the document, as plain and slow as can be, to hold StoneWorks to. */
final class Model {
    static final int NONE = -1000000;
    static final int BAD = -1000001;
    static final int STATE = -1000002;
    static final int FULL = -1000003;

    /** A refusal; a FINDING has its number, the others 0. */
    private static final class Refused extends RuntimeException {
        private static final long serialVersionUID = 1L;
        final int answer;
        final int finding;

        Refused(int answer, int finding) {
            super(null, null, false, false);
            this.answer = answer;
            this.finding = finding;
        }
    }

    private static final class Sheet {
        int lane;
        long[] items;
    }

    /** A LAYER with the BODIES that its KIND inherits. */
    private class Layer {
        final int at;

        Layer(int at) {
            this.at = at;
        }

        int worth() {
            trace.add(10);
            return thick.get(at);
        }

        int mark() {
            trace.add(20);
            return weight.get(at);
        }
    }

    private class Cover extends Layer {
        Cover(int at) {
            super(at);
        }

        @Override int worth() {
            trace.add(11);
            return super.worth() + wall[2];
        }

        @Override int mark() {
            trace.add(21);
            return super.mark() / 10;
        }
    }

    private final class Armour extends Cover {
        Armour(int at) {
            super(at);
        }

        @Override int worth() {
            trace.add(12);
            int first = super.worth();
            return first + mark();
        }

        @Override int mark() {
            trace.add(22);
            return super.mark() + 1000;
        }
    }

    private final class Under extends Layer {
        Under(int at) {
            super(at);
        }

        @Override int mark() {
            trace.add(23);
            int first = super.mark();
            return first + worth();
        }
    }

    private final class Loose extends Layer {
        Loose(int at) {
            super(at);
        }

        @Override int worth() {
            trace.add(13);
            int first = super.worth();
            return first - mark();
        }
    }

    private final Sheet[] sheets = new Sheet[8];
    private final int[] wall = {20, 6, 15, 10, 15};
    private final List<Integer> thick = new ArrayList<>();
    private final List<Integer> weight = new ArrayList<>();
    private final boolean[][] blocks = new boolean[8][12];
    private List<Integer> trace = new ArrayList<>();
    private int status = 0;

    /** The call by its name, as the document says it. */
    long call(String name, int... a) {
        try {
            long answer = answer(name, a);
            if (isOfSheets(name)) {
                status = 0;
            }
            return answer;
        } catch (Refused refused) {
            if (refused.finding > 0) {
                status = refused.finding;
            }
            return refused.answer;
        }
    }

    private static boolean isOfSheets(String name) {
        return List.of("sheet", "set", "copy", "drop", "shared", "planned", "storm", "design",
                "survey", "calm", "as").contains(name);
    }

    private long answer(String name, int[] a) {
        return switch (name) {
            case "sheet" -> sheet(a[0], a[1], a[2]);
            case "set" -> set(a[0], a[1], a[2]);
            case "copy" -> copy(a[0], a[1], a[2], a[3], a[4]);
            case "drop" -> drop(a[0]);
            case "wall" -> wall(a[0], a[1]);
            case "layer" -> layer(a[0], a[1]);
            case "relay" -> relay(a[0], a[1], a[2]);
            case "told" -> told(a[0], a[1]);
            case "wide" -> wide(a[0], a[1]);
            case "volume" -> volume(a[0]);
            case "shared" -> shared(a[0], a[1], a[2], a[3]);
            case "lay" -> lay(a[0], a[1]);
            case "lift" -> lift(a[0], a[1]);
            case "reaches" -> reaches(a[0], a[1], a[2], a[3]);
            case "order" -> order(a[0], a[1], a[2]);
            case "planned" -> planned(a);
            case "storm" -> storm(a[0], a[1], a[2], a[3]);
            case "design" -> design(a);
            case "survey" -> survey(a);
            case "wave" -> wave(a);
            case "calm" -> calm(a);
            case "kind" -> kind(a[0]);
            case "as" -> as(a[0], a[1]);
            case "ask" -> ask(a[0], a[1]);
            case "trace" -> a[0] >= 0 && a[0] < Math.min(16, trace.size()) ? trace.get(a[0]) : NONE;
            case "count" -> count(a[0]);
            case "status" -> status;
            default -> throw new IllegalArgumentException(name);
        };
    }

    private static void need(boolean fits, int answer) {
        if (!fits) {
            throw new Refused(answer, 0);
        }
    }

    private static void find(boolean isFound, int finding) {
        if (isFound) {
            throw new Refused(-1000010 - finding, finding);
        }
    }

    private static void between(long v, long least, long most) {
        need(v >= least && v <= most, BAD);
    }

    private long[] items(int sheet, long i, long n) {
        find(sheets[sheet] == null, 1);
        find(i < 0 || i + n > sheets[sheet].items.length, 2);
        return Arrays.copyOfRange(sheets[sheet].items, (int) i, (int) (i + n));
    }

    private long sheet(int sheet, int lane, int n) {
        between(sheet, 0, 7);
        between(lane, 0, 2);
        need(n <= 100, BAD);
        find(n < 0, 4);
        sheets[sheet] = new Sheet();
        sheets[sheet].lane = lane;
        sheets[sheet].items = new long[n];
        return n;
    }

    private long set(int sheet, int i, int v) {
        between(sheet, 0, 7);
        items(sheet, i, 1);
        int bits = 8 << sheets[sheet].lane;
        long low = v & (1L << bits) - 1;
        long signed = low >= 1L << bits - 1 ? low - (1L << bits) : low;
        sheets[sheet].items[i] = signed;
        return signed;
    }

    private long copy(int a, int i, int b, int j, int n) {
        between(a, 0, 7);
        between(b, 0, 7);
        find(sheets[a] == null || sheets[b] == null, 1);
        find(sheets[a].lane != sheets[b].lane, 5);
        find(n < 0, 2);
        items(b, j, n);
        long[] ahead = items(a, i, n);
        for (int at = 0; at < n; at++) {
            sheets[b].items[j + at] = ahead[at];
        }
        return n;
    }

    private long drop(int sheet) {
        between(sheet, 0, 7);
        find(sheets[sheet] == null, 1);
        int size = sheets[sheet].items.length;
        sheets[sheet] = null;
        return size;
    }

    private long wall(int what, int v) {
        between(what, 0, 4);
        between(v, what == 4 ? 2 : 1, new int[] {100, 50, 60, 1000, 30}[what]);
        int was = wall[what];
        wall[what] = v;
        return was;
    }

    private long layer(int t, int w) {
        between(t, 1, 10);
        between(w, 1, 60000);
        need(thick.size() < 6, FULL);
        thick.add(t);
        weight.add(w);
        return thick.size() - 1;
    }

    private long relay(int layer, int t, int w) {
        between(layer, 0, thick.size() - 1);
        between(t, 1, 10);
        between(w, 1, 60000);
        thick.set(layer, t);
        weight.set(layer, w);
        return 1;
    }

    private boolean holds(int layer) {
        return layer == weight.size() - 1 || weight.get(layer) > weight.get(layer + 1)
                && weight.get(layer) <= wall[4] * weight.get(layer + 1);
    }

    private long told(int layer, int what) {
        between(what, 0, 7);
        if (what < 5) {
            return wall[what];
        }
        between(layer, 0, thick.size() - 1);
        return what == 5 ? thick.get(layer) : what == 6 ? weight.get(layer) : holds(layer) ? 1 : 0;
    }

    private long wide(int k, int h) {
        between(k, 0, thick.size());
        between(h, 0, wall[0] - 1);
        int t = thick.subList(0, k).stream().mapToInt(Integer::intValue).sum();
        if (h >= wall[0] - t) {
            return 0;
        }
        int a = 2 * (wall[0] - h) * wall[2] / 10;
        int b = 2 * t * (10 + wall[2]) / 10;
        return wall[1] + a - b < 0 ? 0 : wall[1] + a - b;
    }

    private long volume(int layer) {
        if (layer == NONE) {
            long all = 0;
            for (int each = 0; each <= thick.size(); each++) {
                all += volume(each);
            }
            return all;
        }
        between(layer, 0, thick.size());
        long cuts = 0;
        for (int h = 0; h < wall[0]; h++) {
            long inner = layer == thick.size() ? 0 : wide(layer + 1, h);
            cuts += Math.max(0, wide(layer, h) - inner);
        }
        return cuts * wall[3];
    }

    private long shared(int sheet, int i, int sort, int k) {
        between(sheet, 0, 7);
        need(sort == NONE || sort >= 0 && sort < 4, BAD);
        between(k, 0, 2);
        long[] items = items(sheet, i, 10);
        for (int at = 0; at < 10; at++) {
            between(items[at], 0, at < 7 ? 100 : 15);
        }
        need(items[0] + items[1] + items[2] + items[3] == 100, BAD);
        boolean[][] may = new boolean[4][3];
        for (int pair = 0; pair < 12; pair++) {
            may[pair / 3][pair % 3] = (items[7 + pair % 3] >> pair / 3 & 1) == 1;
        }
        int[][] shares = shares(items, may);
        int given = 0;
        for (int[] row : shares) {
            given += row[0] + row[1] + row[2];
        }
        return sort == NONE ? 100 - given : shares[sort][k];
    }

    /** Each pair in turn tries all parts, the most first, until one leaves the waste least. */
    private static int[][] shares(long[] items, boolean[][] may) {
        int[] yields = new int[4];
        int[] needs = new int[3];
        for (int at = 0; at < 4; at++) {
            yields[at] = (int) items[at];
        }
        for (int at = 0; at < 3; at++) {
            needs[at] = (int) items[4 + at];
        }
        int[][] shares = new int[4][3];
        int left = flow(yields, needs, may);
        for (int pair = 0; pair < 12; pair++) {
            int s = pair / 3;
            int k = pair % 3;
            int part = may[s][k] ? Math.min(yields[s], needs[k]) : 0;
            may[s][k] = false;
            while (true) {
                yields[s] -= part;
                needs[k] -= part;
                if (part + flow(yields, needs, may) == left) {
                    break;
                }
                yields[s] += part;
                needs[k] += part;
                part--;
            }
            left -= part;
            shares[s][k] = part;
        }
        return shares;
    }

    /** The most that can be given, by ways of one unit each, with steps back. */
    private static int flow(int[] yields, int[] needs, boolean[][] may) {
        int[][] flow = new int[4][3];
        int[] y = yields.clone();
        int[] n = needs.clone();
        int sum = 0;
        for (int s = 0; s < 4; s++) {
            while (y[s] > 0 && push(s, n, may, flow, new boolean[4])) {
                y[s]--;
                sum++;
            }
        }
        return sum;
    }

    private static boolean push(int s, int[] n, boolean[][] may, int[][] flow, boolean[] seen) {
        seen[s] = true;
        for (int k = 0; k < 3; k++) {
            if (may[s][k] && n[k] > 0) {
                n[k]--;
                flow[s][k]++;
                return true;
            }
        }
        for (int k = 0; k < 3; k++) {
            for (int other = 0; may[s][k] && other < 4; other++) {
                if (!seen[other] && flow[other][k] > 0 && push(other, n, may, flow, seen)) {
                    flow[other][k]--;
                    flow[s][k]++;
                    return true;
                }
            }
        }
        return false;
    }

    private static void place(int row, int place) {
        between(row, 0, 7);
        between(place, 0, 11 - row);
    }

    private long lay(int row, int place) {
        place(row, place);
        need(!blocks[row][place], STATE);
        need(row == 0 || blocks[row - 1][place] && blocks[row - 1][place + 1], STATE);
        blocks[row][place] = true;
        return 1;
    }

    private long lift(int row, int place) {
        place(row, place);
        need(blocks[row][place], STATE);
        if (row < 7) {
            need(place == 0 || !blocks[row + 1][place - 1], STATE);
            need(!blocks[row + 1][place], STATE);
        }
        blocks[row][place] = false;
        return 1;
    }

    private static long reaches(int c, int reach, int row, int place) {
        between(c, 0, 11);
        between(reach, 0, 30);
        place(row, place);
        return Math.abs(place + row / 2 - c) + row <= reach ? 1 : 0;
    }

    private List<Integer> ordered(int c, int reach, int m) {
        between(c, 0, 11);
        between(reach, 0, 30);
        between(m, 1, 8);
        List<Integer> order = new ArrayList<>();
        boolean[][] then = new boolean[8][];
        for (int row = 0; row < 8; row++) {
            then[row] = blocks[row].clone();
        }
        for (int row = 0; row < m; row++) {
            for (int place = 0; place < 12 - row; place++) {
                boolean borne = row == 0 || then[row - 1][place] && then[row - 1][place + 1];
                if (!then[row][place] && borne && reaches(c, reach, row, place) == 1) {
                    then[row][place] = true;
                    order.add(row * 100 + place);
                }
            }
        }
        return order;
    }

    private long order(int c, int reach, int m) {
        return ordered(c, reach, m).size();
    }

    private long planned(int[] a) {
        List<Integer> order = ordered(a[0], a[1], a[2]);
        between(a[3], 0, 7);
        between(a[5], 1, 20);
        place(a[6], a[7]);
        long[] tides = items(a[3], a[4], a[5]);
        for (long tide : tides) {
            between(tide, 0, 20);
        }
        int next = 0;
        for (int day = 0; day < tides.length; day++) {
            for (int block = 0; block < tides[day] && next < order.size(); block++) {
                if (order.get(next) == a[6] * 100 + a[7]) {
                    return day;
                }
                next++;
            }
        }
        return NONE;
    }

    private long[] hours(int sheet, int i, int n) {
        long[] items = items(sheet, i, 2L * n);
        for (int at = 0; at < items.length; at++) {
            between(items[at], 0, at % 2 == 0 ? 200 : 100);
        }
        return items;
    }

    private static long harm(long[] hours, int weight, int slope) {
        int d = 0;
        while (d * d * d < weight) {
            d++;
        }
        long harm = 0;
        for (int at = 0; at < hours.length; at += 2) {
            long n = hours[at] * 100 / (d * slope + 10);
            harm += n > 30 ? (n - 30) * (n - 30) / 10 : 0;
        }
        return harm;
    }

    private static long over(long[] hours, int crest) {
        long over = 0;
        for (int at = 0; at < hours.length; at += 2) {
            long above = Math.max(0, hours[at] * 2 - 10 * (crest - hours[at + 1]));
            over += above * above / 100;
        }
        return over;
    }

    private long storm(int sheet, int i, int n, int what) {
        between(sheet, 0, 7);
        between(n, 1, 48);
        between(what, 0, 1);
        long[] hours = hours(sheet, i, n);
        return what == 0 ? harm(hours, weight.isEmpty() ? 1 : weight.get(0), wall[2])
                : over(hours, wall[0]);
    }

    private long design(int[] a) {
        between(a[0], 0, 7);
        between(a[2], 1, 48);
        between(a[3], 0, 1000000);
        between(a[4], 0, 1000000);
        between(a[5], 0, 2);
        long[] hours = hours(a[0], a[1], a[2]);
        long[] best = null;
        for (int crest = 1; crest <= 100; crest++) {
            for (int d = 1; d <= 39; d++) {
                int w = d * d * d;
                long cost = crest * crest * wall[2] + w / 10;
                boolean isLess = best == null || cost < best[2];
                if (isLess && over(hours, crest) <= a[4] && harm(hours, w, wall[2]) <= a[3]) {
                    best = new long[] {crest, w, cost};
                }
            }
        }
        return best == null ? NONE : best[a[5]];
    }

    private long survey(int[] a) {
        between(a[0], 0, 7);
        between(a[1], 0, 7);
        between(a[2], 1, 10);
        between(a[3], 1, 10);
        between(a[4], 1, 1000);
        between(a[5], 0, 3);
        find(sheets[a[0]] == null || sheets[a[1]] == null, 1);
        long[] earlier = items(a[0], 0, a[2] * a[3]);
        long[] later = items(a[1], 0, a[2] * a[3]);
        boolean[][] lost = new boolean[a[3]][a[2]];
        int[] told = new int[4];
        for (int at = 0; at < earlier.length; at++) {
            lost[at / a[2]][at % a[2]] = earlier[at] - later[at] >= a[4];
            told[0] += earlier[at] - later[at] >= a[4] ? 1 : 0;
            told[1] += later[at] - earlier[at] >= a[4] ? 1 : 0;
        }
        for (int at = 0; at < earlier.length; at++) {
            int size = flood(lost, at % a[2], at / a[2]);
            told[2] += size > 0 ? 1 : 0;
            told[3] = Math.max(told[3], size);
        }
        return told[a[5]];
    }

    private static int flood(boolean[][] lost, int x, int y) {
        if (y < 0 || y >= lost.length || x < 0 || x >= lost[y].length || !lost[y][x]) {
            return 0;
        }
        lost[y][x] = false;
        return 1 + flood(lost, x - 1, y) + flood(lost, x + 1, y) + flood(lost, x, y - 1)
                + flood(lost, x, y + 1);
    }

    private static long wave(int[] a) {
        between(a[0], 1, 50);
        between(a[1], 1, 50);
        between(a[2], 0, 10);
        between(a[3], 1, 1000000);
        between(a[4], 0, 4);
        between(a[5], 0, a[0]);
        between(a[6], 0, a[1]);
        long sum = 0;
        for (int i = -a[4]; i <= a[4]; i++) {
            for (int j = -a[4]; j <= a[4]; j++) {
                long size = a[3];
                for (int bounce = 0; bounce < Math.abs(2 * i) + Math.abs(2 * j); bounce++) {
                    size = size * a[2] / 10;
                }
                sum += size / (1 + Math.abs(a[5] - 2 * i * a[0]) + Math.abs(a[6] - 2 * j * a[1]));
            }
        }
        return sum;
    }

    private long calm(int[] a) {
        between(a[0], 1, 50);
        between(a[1], 1, 50);
        between(a[2], 0, 10);
        between(a[3], 0, 7);
        between(a[5], 1, 50);
        long[] rows = items(a[3], a[4], 2L * a[5]);
        for (int at = 0; at < rows.length; at++) {
            between(rows[at], 0, a[at % 2]);
        }
        int best = 0;
        for (int n = 0; n < a[5]; n++) {
            if (calmAt(a, rows, n) < calmAt(a, rows, best)) {
                best = n;
            }
        }
        return best;
    }

    private static long calmAt(int[] a, long[] rows, int n) {
        return wave(new int[] {a[0], a[1], a[2], 1000000, 2, (int) rows[2 * n], (int) rows[2 * n + 1]});
    }

    private Layer taken(int layer) {
        between(layer, 0, thick.size() - 1);
        if (layer > 0) {
            return holds(layer) ? new Under(layer) : new Loose(layer);
        }
        return holds(0) && weight.get(0) >= 1000 ? new Armour(0) : new Cover(0);
    }

    private static boolean is(Layer layer, int kind) {
        return switch (kind) {
            case 0 -> true;
            case 1 -> layer instanceof Cover;
            case 2 -> layer instanceof Armour;
            case 3 -> layer instanceof Under;
            default -> layer instanceof Loose;
        };
    }

    private long kind(int layer) {
        Layer taken = taken(layer);
        for (int kind : new int[] {2, 1, 3}) {
            if (is(taken, kind)) {
                return kind;
            }
        }
        return 4;
    }

    private long as(int layer, int kind) {
        Layer taken = taken(layer);
        between(kind, 0, 4);
        find(!is(taken, kind), 3);
        return weight.get(layer);
    }

    private long ask(int layer, int what) {
        Layer taken = taken(layer);
        between(what, 0, 1);
        trace = new ArrayList<>();
        return what == 0 ? taken.worth() : taken.mark();
    }

    private long count(int what) {
        between(what, 0, 5);
        int[] counts = {0, thick.size(), 0, 0, 0, 12 + 11 + 10 + 9 + 8 + 7 + 6 + 5};
        for (Sheet sheet : sheets) {
            counts[0] += sheet != null ? 1 : 0;
        }
        for (int layer = 0; layer < thick.size(); layer++) {
            counts[2] += holds(layer) ? 1 : 0;
            counts[3] += taken(layer) instanceof Loose ? 1 : 0;
        }
        for (boolean[] row : blocks) {
            for (boolean lies : row) {
                counts[4] += lies ? 1 : 0;
            }
        }
        return counts[what];
    }
}
