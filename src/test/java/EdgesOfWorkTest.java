/** Promises 6, 7 and 12, what workers do, sentence by sentence. What a delivery does stands in EdgesOfTermsTest. */
public final class EdgesOfWorkTest {
    private static final int LIFT = QuayMesh.LIFT;
    private static final int CARRY = QuayMesh.CARRY;
    private static final int FETCH = QuayMesh.FETCH;
    private static final int LEAST = Integer.MIN_VALUE;
    private static final int MOST = Integer.MAX_VALUE;

    private EdgesOfWorkTest() {
    }

    public static void main(String[] args) {
        Tests.runAll(EdgesOfWorkTest.class);
        Document.requirePromises(6, 7);
        Document.requirePromises(12, 12);
        Check.end();
    }

    private static QuayMesh oneBox() {
        return Yard.withBoxes(1);
    }

    /** A LIFT in the queue of crane 0 and a CARRY in that of truck 4, of two boxes; a loss of each sort is due for both. */
    private static QuayMesh twoWaitingAndLosses() {
        QuayMesh quay = Yard.withBoxesOnApron(1);
        quay.box(0, 2);
        quay.send(LIFT, 1, 0, 0);
        quay.send(CARRY, 0, 0, 4);
        for (int worker = 0; worker <= 4; worker += 4) {
            quay.lose(worker, 1, false);
            quay.lose(worker, 1, true);
        }
        return quay;
    }

    /** Truck 4 has seen a CARRY of the box 0, which is on the apron, to the stack 2. */
    private static QuayMesh seenByTruck4() {
        QuayMesh quay = Yard.withBoxesOnApron(2);
        quay.send(CARRY, 0, 2, 4);
        quay.deliver(4);
        return quay;
    }

    // ---- deliver

    private static void promise6Worker() {
        Document.promise(6, "`worker`: 0 to 7");
        QuayMesh quay = oneBox();
        for (int worker = 0; worker < 8; worker++) {
            int message = quay.send(worker < 4 ? LIFT : CARRY, 0, 0, worker);
            quay.deliver(worker);
            Check.same("handed of the message to " + worker, quay.handed(message), 1);
        }
        Check.noIndex("deliver(-1)", quay, () -> quay.deliver(-1));
        Check.noIndex("deliver(8)", quay, () -> quay.deliver(8));
    }

    private static void promise6ReturnsEmpty() {
        Document.promise(6, "Returns EMPTY");
        QuayMesh quay = Yard.withBoxesOnApron(1);
        for (int worker = 0; worker < 8; worker++) {
            Check.same("deliver(" + worker + "), its queue empty", quay.deliver(worker), QuayMesh.EMPTY);
        }
        quay.send(LIFT, 0, 0, 2);
        for (int worker = 0; worker < 8; worker++) {
            int due = worker == 2 ? QuayMesh.ACKNOWLEDGED : QuayMesh.EMPTY;
            Check.same("deliver(" + worker + ")", quay.deliver(worker), due);
        }
        Check.same("deliver(2) once more", quay.deliver(2), QuayMesh.EMPTY);
    }

    /** Of an empty queue nothing can be lost, and nobody can fail to hear it. */
    private static void promise6ReturnsEmptyWhateverIsDue() {
        QuayMesh quay = oneBox();
        for (int worker = 0; worker < 8; worker++) {
            quay.lose(worker, 1, false);
            quay.lose(worker, 1, true);
        }
        quay.silence(0, true);
        for (int worker = 0; worker < 8; worker++) {
            Check.same("deliver(" + worker + ")", quay.deliver(worker), QuayMesh.EMPTY);
            Check.same("lose(" + worker + ", 1, false)", quay.lose(worker, 1, false), 2);
            Check.same("lose(" + worker + ", 1, true)", quay.lose(worker, 1, true), 2);
        }
    }

    private static void promise6ReturnsLost() {
        Document.promise(6, "LOST");
        QuayMesh quay = twoWaitingAndLosses();
        Check.same("deliver(0)", quay.deliver(0), QuayMesh.LOST);
        Check.same("deliver(4)", quay.deliver(4), QuayMesh.LOST);
        Check.same("deliver(0), that one over", quay.deliver(0), QuayMesh.UNHEARD);
        Check.same("deliver(4), that one over", quay.deliver(4), QuayMesh.SEEN);
    }

    private static void promise6ReturnsSilent() {
        Document.promise(6, "SILENT");
        QuayMesh quay = oneBox();
        for (int crane = 0; crane < 4; crane++) {
            quay.send(LIFT, 0, 0, crane);
            quay.silence(crane, true);
            Check.same("deliver(" + crane + ")", quay.deliver(crane), QuayMesh.SILENT);
        }
    }

    private static void promise6ReturnsNotYet() {
        Document.promise(6, "NOT_YET");
        QuayMesh quay = Yard.withBoxes(6);
        quay.send(LIFT, 5, 0, 0);
        Check.same("deliver(0), crane 1 on the place", quay.deliver(0), QuayMesh.NOT_YET);
    }

    private static void promise6ReturnsAcknowledged() {
        Document.promise(6, "ACKNOWLEDGED");
        QuayMesh quay = Yard.withBoxes(5);
        quay.send(LIFT, 4, 0, 0);
        Check.same("deliver(0), crane 1 behind the place", quay.deliver(0), QuayMesh.ACKNOWLEDGED);
        quay.send(LIFT, 4, 0, 1);
        Check.same("deliver(1), nothing to do", quay.deliver(1), QuayMesh.ACKNOWLEDGED);
        quay.repeat(0);
        Check.same("deliver(0), done before", quay.deliver(0), QuayMesh.ACKNOWLEDGED);
    }

    private static void promise6ReturnsUnheard() {
        Document.promise(6, "UNHEARD");
        QuayMesh quay = Yard.withBoxes(5);
        quay.lose(0, 2, true);
        quay.lose(1, 1, true);
        quay.send(LIFT, 4, 0, 0);
        Check.same("deliver(0), done", quay.deliver(0), QuayMesh.UNHEARD);
        Check.same("deliver(0), done before", quay.deliver(0), QuayMesh.UNHEARD);
        quay.send(LIFT, 4, 0, 1);
        Check.same("deliver(1), nothing to do", quay.deliver(1), QuayMesh.UNHEARD);
        Check.same("queue(0)", quay.queue(0), 1);
        Check.same("queue(1)", quay.queue(1), 1);
    }

    private static void promise6ReturnsSeen() {
        Document.promise(6, "or SEEN");
        QuayMesh quay = oneBox();
        quay.send(CARRY, 0, 0, 7);
        Check.same("deliver(7)", quay.deliver(7), QuayMesh.SEEN);
        Check.same("deliver(7) of the same again", quay.deliver(7), QuayMesh.SEEN);
        quay.send(FETCH, 0, 0, 7);
        Check.same("deliver(7)", quay.deliver(7), QuayMesh.SEEN);
        Check.same("deliver(7) of the other", quay.deliver(7), QuayMesh.SEEN);
    }

    private static void promise6Throws() {
        Document.promise(6, "Throws `IndexOutOfBoundsException` if there is no such worker");
        for (int worker : new int[] {LEAST, -2, -1, 8, 9, MOST}) {
            Refused.withIndex("deliver(" + worker + ")", () -> twoWaitingAndLosses(), quay -> quay.deliver(worker));
        }
    }

    private static void promise6AfterARefusal() {
        QuayMesh quay = twoWaitingAndLosses();
        Check.noIndex("deliver(8)", quay, () -> quay.deliver(8));
        Check.noIndex("deliver(-1)", quay, () -> quay.deliver(-1));
        Check.same("handed(1)", quay.handed(1), 0);
        Check.same("handed(2)", quay.handed(2), 0);
        Check.same("lose(0, 1, false)", quay.lose(0, 1, false), 2);
        Check.same("lose(4, 1, true)", quay.lose(4, 1, true), 2);
        Check.same("deliver(0)", quay.deliver(0), QuayMesh.LOST);
        Check.same("handed(1)", quay.handed(1), 1);
    }

    // ---- act

    private static void promise7Truck() {
        Document.promise(7, "`truck`: 4 to 7");
        QuayMesh quay = Yard.withBoxesOnApron(4);
        for (int truck = 4; truck < 8; truck++) {
            quay.send(CARRY, truck - 4, 0, truck);
            quay.deliver(truck);
            Check.same("act(" + truck + ")", quay.act(truck), QuayMesh.TAKEN);
            Check.same("whereIs of its box", quay.whereIs(truck - 4), 200 + truck);
        }
        Check.noIndex("act(3)", quay, () -> quay.act(3));
        Check.noIndex("act(8)", quay, () -> quay.act(8));
    }

    private static void promise7ReturnsEmpty() {
        Document.promise(7, "Returns EMPTY");
        QuayMesh quay = Yard.withBoxesOnApron(1);
        Check.same("act(4), no message", quay.act(4), QuayMesh.EMPTY);
        quay.send(CARRY, 0, 0, 4);
        Check.same("act(4), a message not seen", quay.act(4), QuayMesh.EMPTY);
        quay.lose(4, 1, false);
        quay.deliver(4);
        Check.same("act(4), a message lost", quay.act(4), QuayMesh.EMPTY);
        quay.deliver(4);
        Check.same("act(5), another one has seen it", quay.act(5), QuayMesh.EMPTY);
        Check.same("act(4), a message seen", quay.act(4), QuayMesh.TAKEN);
        Check.same("act(4)", quay.act(4), QuayMesh.ACKNOWLEDGED);
        Check.same("act(4), the message done", quay.act(4), QuayMesh.EMPTY);
    }

    /** A box on its ship, on another truck, under another box; a truck with another box; a stack without room; a box not booked. */
    private static void promise7ReturnsNotYet() {
        Document.promise(7, "NOT_YET");
        QuayMesh quay = Yard.withBoxesOnApron(1);
        quay.box(0, 7);
        quay.send(CARRY, 1, 0, 4);
        quay.deliver(4);
        Check.same("act(4), the box on its ship", quay.act(4), QuayMesh.NOT_YET);
        quay.send(CARRY, 0, 0, 5);
        quay.deliver(5);
        quay.act(5);
        quay.send(CARRY, 0, 0, 6);
        quay.deliver(6);
        Check.same("act(6), the box on another truck", quay.act(6), QuayMesh.NOT_YET);
        Yard.lift(quay, 1, 0);
        quay.send(CARRY, 1, 0, 5);
        quay.deliver(5);
        quay.deliver(5);
        Check.same("act(5), another box on it", quay.act(5), QuayMesh.NOT_YET);
        Check.same("seen(5), still", quay.seen(5), 5);
    }

    private static void promise7ReturnsNotYetForAFetch() {
        QuayMesh quay = Yard.withBoxesInStack(2);
        quay.send(FETCH, 0, 0, 4);
        quay.deliver(4);
        Check.same("act(4), a box above", quay.act(4), QuayMesh.NOT_YET);
        quay.send(FETCH, 1, 0, 5);
        quay.deliver(5);
        quay.act(5);
        Check.same("act(5), not booked", quay.act(5), QuayMesh.NOT_YET);
        Check.same("act(5), not booked still", quay.act(5), QuayMesh.NOT_YET);
        Check.same("whereIs(1)", quay.whereIs(1), 205);
    }

    private static void promise7ReturnsTaken() {
        Document.promise(7, "TAKEN");
        QuayMesh quay = seenByTruck4();
        quay.lose(4, 1, true);
        Check.same("act(4), which acknowledges nothing yet", quay.act(4), QuayMesh.TAKEN);
        Check.same("lose(4, 1, true)", quay.lose(4, 1, true), 2);
        Check.same("whereIs(0)", quay.whereIs(0), 204);
        Check.same("seen(4)", quay.seen(4), 2);
        Check.same("queue(4)", quay.queue(4), 1);
        Check.same("isDone(2)", quay.isDone(2), false);
    }

    private static void promise7ReturnsAcknowledged() {
        Document.promise(7, "ACKNOWLEDGED");
        QuayMesh quay = seenByTruck4();
        quay.act(4);
        Check.same("act(4), the box put down", quay.act(4), QuayMesh.ACKNOWLEDGED);
        quay.send(CARRY, 0, 2, 4);
        quay.deliver(4);
        Check.same("act(4), nothing to do", quay.act(4), QuayMesh.ACKNOWLEDGED);
    }

    private static void promise7ReturnsUnheard() {
        Document.promise(7, "or UNHEARD");
        QuayMesh quay = seenByTruck4();
        quay.lose(4, 2, true);
        quay.act(4);
        Check.same("act(4), the box put down", quay.act(4), QuayMesh.UNHEARD);
        Check.same("whereIs(0)", quay.whereIs(0), 320);
        Check.same("queue(4)", quay.queue(4), 1);
        Check.same("deliver(4), unheard again", quay.deliver(4), QuayMesh.UNHEARD);
        Check.same("deliver(4), none due any more", quay.deliver(4), QuayMesh.ACKNOWLEDGED);
    }

    private static void promise7ReturnsUnheardOfNothingToDo() {
        QuayMesh quay = Yard.withBoxesInStack(1);
        quay.lose(5, 1, true);
        int there = quay.send(CARRY, 0, 0, 5);
        quay.deliver(5);
        Check.same("act(5), nothing to do", quay.act(5), QuayMesh.UNHEARD);
        Check.same("seen(5)", quay.seen(5), QuayMesh.NONE);
        Check.same("queued(5, 0)", quay.queued(5, 0), there);
        Check.same("unheard(), no move was made", quay.unheard(), 0);
    }

    private static void promise7Throws() {
        Document.promise(7, "Throws `IndexOutOfBoundsException` if there is no such truck");
        for (int truck : new int[] {LEAST, -1, 0, 3, 8, MOST}) {
            Refused.withIndex("act(" + truck + ")", () -> seenByTruck4(), quay -> quay.act(truck));
        }
    }

    private static void promise7AfterARefusal() {
        QuayMesh quay = seenByTruck4();
        Check.noIndex("act(3)", quay, () -> quay.act(3));
        Check.noIndex("act(8)", quay, () -> quay.act(8));
        Check.same("whereIs(0)", quay.whereIs(0), 100);
        Check.same("seen(4)", quay.seen(4), 2);
        Check.same("act(4)", quay.act(4), QuayMesh.TAKEN);
        Check.noIndex("act(8)", quay, () -> quay.act(8));
        Check.same("act(4)", quay.act(4), QuayMesh.ACKNOWLEDGED);
        Check.same("whereIs(0)", quay.whereIs(0), 320);
    }

    // ---- park

    private static void promise12Crane() {
        Document.promise(12, "`crane`: 0 to 3");
        QuayMesh quay = new QuayMesh();
        Check.same("park(0, 1)", quay.park(0, 1), 0);
        Check.same("park(3, 14)", quay.park(3, 14), 15);
        Check.noIndex("park(-1, 0)", quay, () -> quay.park(-1, 0));
        Check.noIndex("park(4, 15)", quay, () -> quay.park(4, 15));
    }

    private static void promise12Place() {
        Document.promise(12, "`place`: 0 to 15");
        QuayMesh quay = new QuayMesh();
        quay.park(0, 2);
        quay.park(3, 12);
        Check.same("park(0, 0)", quay.park(0, 0), 2);
        Check.same("park(3, 15)", quay.park(3, 15), 12);
        Check.noIndex("park(0, -1)", quay, () -> quay.park(0, -1));
        Check.noIndex("park(3, 16)", quay, () -> quay.park(3, 16));
    }

    private static void promise12Returns() {
        Document.promise(12, "Returns the place on which it stood.");
        QuayMesh quay = new QuayMesh();
        Check.same("park(1, 9)", quay.park(1, 9), 5);
        Check.same("park(1, 9), where it stands", quay.park(1, 9), 9);
        Check.same("park(1, 1)", quay.park(1, 1), 9);
        Check.same("park(0, 0), where it stands at first", quay.park(0, 0), 0);
        Check.same("park(2, 2)", quay.park(2, 2), 10);
        Check.same("park(3, 3)", quay.park(3, 3), 15);
        Check.same("placeOf(3)", quay.placeOf(3), 3);
    }

    private static void promise12ThrowsNoSuchCrane() {
        Document.promise(12, "Throws `IndexOutOfBoundsException` if there is no such crane");
        for (int crane : new int[] {LEAST, -1, 4, 7, MOST}) {
            Refused.withIndex("park(" + crane + ", 1)", () -> oneBox(), quay -> quay.park(crane, 1));
        }
    }

    private static void promise12ThrowsNoSuchPlace() {
        Document.promise(12, "or place");
        for (int place : new int[] {LEAST, -1, 16, MOST}) {
            for (int i = 0; i < 4; i++) {
                int crane = i;
                Refused.withIndex("park(" + i + ", " + place + ")", () -> oneBox(), quay -> quay.park(crane, place));
            }
        }
    }

    private static void promise12ThrowsSilent() {
        Document.promise(12, "Throws `IllegalStateException` if it is silent");
        for (int i = 0; i < 4; i++) {
            int crane = i;
            Refused.withState("park of " + i + ", where it stands", Yard::withSilentCranes,
                quay -> quay.park(crane, 5 * crane));
            Refused.withState("park of " + i + ", where it could go", Yard::withSilentCranes,
                quay -> quay.park(crane, crane < 3 ? 5 * crane + 1 : 14));
        }
        QuayMesh quay = Yard.withSilentCranes();
        quay.silence(2, false);
        Check.same("park(2, 11), speaking again beside silent ones", quay.park(2, 11), 10);
        Check.noState("park(2, 15), where a silent one stands", quay, () -> quay.park(2, 15));
    }

    /** From 0, 5, 10 and 15 each crane can go just up to its neighbours. */
    private static void promise12ThrowsCannotGo() {
        Document.promise(12, "or cannot go there");
        for (int i = 0; i < 4; i++) {
            for (int to = 0; to < 16; to++) {
                int crane = i;
                int place = to;
                boolean canGo = (i == 0 || to > 5 * i - 5) && (i == 3 || to < 5 * i + 5);
                String call = "park(" + crane + ", " + place + ")";
                if (canGo) {
                    Check.same(call, new QuayMesh().park(crane, place), 5 * crane);
                } else {
                    Refused.withState(call, QuayMesh::new, quay -> quay.park(crane, place));
                }
            }
        }
    }

    private static void promise12FirstNamedIsThrown() {
        Refused.withIndex("park(4, 16)", () -> oneBox(), quay -> quay.park(4, 16));
        Refused.withIndex("park(0, 16), silent", Yard::withSilentCranes, quay -> quay.park(0, 16));
        Refused.withIndex("park(3, -1), silent, and the others below", Yard::withSilentCranes, quay -> quay.park(3, -1));
        Refused.withIndex("park(0, 16), beyond the others", () -> oneBox(), quay -> quay.park(0, 16));
        Refused.withState("park(0, 5), silent, and another there", Yard::withSilentCranes, quay -> quay.park(0, 5));
    }

    private static void promise12AfterARefusal() {
        QuayMesh quay = Yard.withBoxes(3);
        Check.noState("park(0, 5)", quay, () -> quay.park(0, 5));
        Check.noIndex("park(1, 16)", quay, () -> quay.park(1, 16));
        for (int crane = 0; crane < 4; crane++) {
            Check.same("placeOf(" + crane + ")", quay.placeOf(crane), 5 * crane);
        }
        Check.same("park(1, 1), which the refused one would bar", quay.park(1, 1), 5);
        quay.silence(1, true);
        Check.noState("park(1, 4)", quay, () -> quay.park(1, 4));
        Check.same("placeOf(1)", quay.placeOf(1), 1);
        quay.send(LIFT, 2, 0, 0);
        Check.same("deliver(0), beyond the one that stayed", quay.deliver(0), QuayMesh.NOT_YET);
        Check.same("silence(1, false), silent still", quay.silence(1, false), true);
    }
}
