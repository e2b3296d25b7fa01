/** All that can be asked of a quay, as one text. It asks beyond the 512th call, which the program goes on to answer. */
final class Snapshot {
    private Snapshot() {
    }

    static String of(QuayMesh quay) {
        StringBuilder text = new StringBuilder();
        text.append("hour ").append(quay.hour()).append(" boxes");
        for (int box = 0; box < quay.boxes(); box++) {
            text.append(' ').append(quay.whereIs(box)).append('/').append(quay.whereByLog(box));
            text.append('/').append(quay.liftedBy(box)).append('/').append(quay.bookedFor(box));
        }
        text.append(" cranes");
        for (int crane = 0; crane < 4; crane++) {
            text.append(' ').append(quay.placeOf(crane));
        }
        text.append(" stacks");
        for (int stack = 0; stack < 6; stack++) {
            text.append(' ').append(quay.height(stack));
        }
        appendBroker(text, quay);
        return text.toString();
    }

    private static void appendBroker(StringBuilder text, QuayMesh quay) {
        for (int worker = 0; worker < 8; worker++) {
            text.append(" queue");
            for (int k = 0; k < quay.queue(worker); k++) {
                text.append(' ').append(quay.queued(worker, k));
            }
            if (worker >= 4) {
                text.append(" seen ").append(quay.seen(worker));
            }
        }
        text.append(" messages");
        for (int message = 0; message < messages(quay); message++) {
            text.append(' ').append(quay.handed(message)).append(quay.isDone(message) ? "+" : "-");
        }
        text.append(" log");
        for (int move = 0; move < quay.moves(); move++) {
            text.append(' ').append(quay.moveAt(move));
        }
        text.append(" unheard ").append(quay.unheard());
    }

    /** The face does not tell how many messages there are: those count that it knows. */
    static int messages(QuayMesh quay) {
        for (int message = 0; message < 80; message++) {
            try {
                quay.handed(message);
            } catch (IndexOutOfBoundsException e) {
                return message;
            }
        }
        return 80;
    }
}
