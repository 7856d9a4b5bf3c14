/** All that can be asked of an object without changing it, as a text to compare. */
final class Snapshot {
    private Snapshot() {
    }

    static String of(RouteProofs x) {
        StringBuilder text = new StringBuilder();
        for (int what = 0; what <= 8; what++) {
            text.append(" n").append(x.count(what));
        }
        int cells = x.count(0) * x.count(1);
        for (int cell = 0; cell < cells; cell++) {
            text.append("\ncell ").append(cell);
            for (int what = 0; what <= 8; what++) {
                text.append(' ').append(x.cell(cell, what));
            }
            text.append(' ').append(x.changed(cell)).append(' ').append(x.steps(0, cell));
            text.append(' ').append(x.falling(0, cell)).append(' ').append(x.falling(cell, cells - 1));
        }
        addRoutes(text, x);
        text.append("\npairs ").append(x.tuples()).append(' ').append(x.determinant());
        text.append("\nflow ").append(x.flow()).append(' ').append(x.bestTurns(0)).append(' ').append(x.bestTurns(1));
        text.append("\ncover ").append(x.cover()).append("\nfault ").append(x.fault());
        return text.toString();
    }

    private static void addRoutes(StringBuilder text, RouteProofs x) {
        for (int slot = 0; slot < 5; slot++) {
            text.append("\nslot ").append(slot);
            for (int what = 0; what <= 4; what++) {
                text.append(" a").append(x.about(slot, what));
            }
            for (int index = -1; index < 64; index++) {
                text.append(' ').append(x.route(slot, index));
            }
        }
    }

    /** Also what the pad and the places hold; the object is changed by this. */
    static String ofAll(RouteProofs x) {
        StringBuilder text = new StringBuilder(of(x));
        text.append("\nload ").append(x.load()).append(of(x));
        for (int place = 0; place < 2; place++) {
            text.append("\nrestore ").append(x.restore(place)).append(of(x));
        }
        return text.toString();
    }
}
