/** Calls of StoneWorks by their names, for tests that have calls in rows. */
final class Calls {
    private Calls() {
    }

    static long answer(StoneWorks x, String name, int... a) {
        return switch (name) {
            case "sheet" -> x.sheet(a[0], a[1], a[2]);
            case "set" -> x.set(a[0], a[1], a[2]);
            case "copy" -> x.copy(a[0], a[1], a[2], a[3], a[4]);
            case "drop" -> x.drop(a[0]);
            case "wall" -> x.wall(a[0], a[1]);
            case "layer" -> x.layer(a[0], a[1]);
            case "relay" -> x.relay(a[0], a[1], a[2]);
            case "told" -> x.told(a[0], a[1]);
            case "wide" -> x.wide(a[0], a[1]);
            case "volume" -> x.volume(a[0]);
            case "shared" -> x.shared(a[0], a[1], a[2], a[3]);
            case "lay" -> x.lay(a[0], a[1]);
            case "lift" -> x.lift(a[0], a[1]);
            case "reaches" -> x.reaches(a[0], a[1], a[2], a[3]);
            case "order" -> x.order(a[0], a[1], a[2]);
            case "planned" -> x.planned(a[0], a[1], a[2], a[3], a[4], a[5], a[6], a[7]);
            case "storm" -> x.storm(a[0], a[1], a[2], a[3]);
            case "design" -> x.design(a[0], a[1], a[2], a[3], a[4], a[5]);
            case "survey" -> x.survey(a[0], a[1], a[2], a[3], a[4], a[5]);
            case "wave" -> x.wave(a[0], a[1], a[2], a[3], a[4], a[5], a[6]);
            case "calm" -> x.calm(a[0], a[1], a[2], a[3], a[4], a[5]);
            case "kind" -> x.kind(a[0]);
            case "as" -> x.as(a[0], a[1]);
            case "ask" -> x.ask(a[0], a[1]);
            case "trace" -> x.trace(a[0]);
            case "count" -> x.count(a[0]);
            case "status" -> x.status();
            default -> throw new IllegalArgumentException(name);
        };
    }
}
