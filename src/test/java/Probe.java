import java.util.function.IntSupplier;

/**
 * What a quay answers to a long fixed run of calls. It shows also what no view
 * tells: the losses that are due, who is silent, what was acknowledged last,
 * which slots and berths are taken. The quay is used up by it.
 */
final class Probe {
    private final QuayMesh quay;
    private final StringBuilder text = new StringBuilder();

    private Probe(QuayMesh quay) {
        this.quay = quay;
    }

    static String of(QuayMesh quay) {
        Probe probe = new Probe(quay);
        probe.text.append(Snapshot.of(quay));
        probe.askWorkers();
        probe.askGates();
        probe.letWork();
        probe.askShips();
        probe.text.append('\n').append(Snapshot.of(quay));
        return probe.text.toString();
    }

    private void ask(String what, IntSupplier call) {
        text.append('\n').append(what).append(' ');
        try {
            text.append(call.getAsInt());
        } catch (RuntimeException e) {
            text.append(e.getClass().getSimpleName());
        }
    }

    private void askWorkers() {
        for (int i = 0; i < 8; i++) {
            int worker = i;
            ask("repeat", () -> quay.repeat(worker));
            ask("lose messages", () -> quay.lose(worker, 1, false));
            ask("lose acknowledgements", () -> quay.lose(worker, 1, true));
        }
        for (int i = 0; i < 4; i++) {
            int crane = i;
            ask("silence", () -> quay.silence(crane, false) ? 1 : 0);
        }
    }

    private void askGates() {
        int now = quay.hour();
        for (int i = 0; i < quay.boxes() * 2 * 25; i++) {
            int box = i / 50;
            int gate = i % 2;
            int hour = now + i % 50 / 2;
            ask("book", () -> quay.book(gate, hour, box));
            ask("unbook", () -> quay.unbook(box));
        }
    }

    private void letWork() {
        for (int i = 0; i < 8 * 14; i++) {
            int worker = i % 8;
            ask("deliver", () -> quay.deliver(worker));
            if (worker >= 4) {
                ask("act", () -> quay.act(worker));
                ask("act", () -> quay.act(worker));
            }
        }
    }

    private void askShips() {
        for (int i = 0; i < 16; i++) {
            int place = i;
            ask("berth", () -> quay.berth(place, 1));
        }
        for (int i = 0; i < 10 * 16; i++) {
            int ship = i / 16;
            int place = i % 16;
            ask("box", () -> quay.box(ship, place));
        }
        for (int i = 0; i < 10; i++) {
            int ship = i;
            ask("leave", () -> quay.leave(ship));
        }
        ask("advance", () -> quay.advance(1));
    }
}
