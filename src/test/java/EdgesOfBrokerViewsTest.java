/** Promises 24 to 31, what the broker has and what it has heard of, sentence by sentence. */
public final class EdgesOfBrokerViewsTest {
    private static final int LIFT = QuayMesh.LIFT;
    private static final int CARRY = QuayMesh.CARRY;
    private static final int FETCH = QuayMesh.FETCH;
    private static final int NONE = QuayMesh.NONE;
    private static final int LEAST = Integer.MIN_VALUE;
    private static final int MOST = Integer.MAX_VALUE;

    private EdgesOfBrokerViewsTest() {
    }

    public static void main(String[] args) {
        Tests.runAll(EdgesOfBrokerViewsTest.class);
        Document.requirePromises(24, 31);
        Check.end();
    }

    private static QuayMesh twoBoxes() {
        return Yard.withBoxes(2);
    }

    // ---- queue and queued

    private static void promise24Worker() {
        Document.promise(24, "`worker`: 0 to 7");
        QuayMesh quay = twoBoxes();
        quay.send(LIFT, 0, 0, 0);
        quay.send(FETCH, 0, 0, 7);
        Check.same("queue(0)", quay.queue(0), 1);
        Check.same("queue(7)", quay.queue(7), 1);
        Check.noIndex("queue(-1)", quay, () -> quay.queue(-1));
        Check.noIndex("queue(8)", quay, () -> quay.queue(8));
    }

    private static void promise24Returns() {
        Document.promise(24, "Returns how many.");
        QuayMesh quay = Yard.withMostMessages();
        Check.same("queue(1), all messages", quay.queue(1), 80);
        Check.same("queue(0), none", quay.queue(0), 0);
        quay.park(1, 1);
        quay.deliver(1);
        Check.same("queue(1), one that cannot be done yet", quay.queue(1), 80);
        quay.silence(0, true);
        quay.silence(1, true);
        quay.giveAway(1, 0);
        quay.silence(0, false);
        quay.deliver(0);
        Check.same("queue(0), one acknowledged", quay.queue(0), 79);
        Check.same("queue(1), all given away", quay.queue(1), 0);
    }

    private static void promise24Throws() {
        Document.promise(24, "Throws `IndexOutOfBoundsException` if there is no such worker");
        for (int worker : new int[] {LEAST, -1, 8, MOST}) {
            Refused.withIndex("queue(" + worker + ")", () -> twoBoxes(), quay -> quay.queue(worker));
        }
    }

    private static void promise24AfterARefusal() {
        QuayMesh quay = Yard.withMostMessages();
        Check.noIndex("queue(8)", quay, () -> quay.queue(8));
        Check.same("queue(1)", quay.queue(1), 80);
        Check.same("queue(7)", quay.queue(7), 0);
    }

    private static void promise25Worker() {
        Document.promise(25, "`worker`: 0 to 7");
        QuayMesh quay = twoBoxes();
        quay.send(LIFT, 0, 0, 0);
        quay.send(FETCH, 0, 0, 7);
        Check.same("queued(0, 0)", quay.queued(0, 0), 0);
        Check.same("queued(7, 0)", quay.queued(7, 0), 1);
        Check.noIndex("queued(-1, 0)", quay, () -> quay.queued(-1, 0));
        Check.noIndex("queued(8, 0)", quay, () -> quay.queued(8, 0));
    }

    private static void promise25K() {
        Document.promise(25, "`k`: 0 for the first one");
        QuayMesh quay = Yard.withMostMessages();
        Check.same("queued(1, 0), the first one", quay.queued(1, 0), 0);
        Check.same("queued(1, 79), the last one", quay.queued(1, 79), 79);
        Check.noIndex("queued(1, -1)", quay, () -> quay.queued(1, -1));
        Check.noIndex("queued(1, 80)", quay, () -> quay.queued(1, 80));
    }

    private static void promise25Returns() {
        Document.promise(25, "Returns the message.");
        QuayMesh quay = twoBoxes();
        for (int message = 0; message < 8; message++) {
            quay.send(LIFT, 0, 0, message % 2 * 3);
        }
        for (int k = 0; k < 4; k++) {
            Check.same("queued(0, " + k + ")", quay.queued(0, k), 2 * k);
            Check.same("queued(3, " + k + ")", quay.queued(3, k), 2 * k + 1);
        }
    }

    private static void promise25ThrowsNoSuchWorker() {
        Document.promise(25, "Throws `IndexOutOfBoundsException` if there is no such worker");
        for (int worker : new int[] {LEAST, -1, 8, MOST}) {
            Refused.withIndex("queued(" + worker + ", 0)", Yard::withMostMessages, quay -> quay.queued(worker, 0));
        }
    }

    private static void promise25ThrowsNotSoMany() {
        Document.promise(25, "or its queue has not so many");
        for (int k : new int[] {LEAST, -1, 80, MOST}) {
            Refused.withIndex("queued(1, " + k + ")", Yard::withMostMessages, quay -> quay.queued(1, k));
        }
        for (int i = 0; i < 8; i++) {
            int worker = i;
            Refused.withIndex("queued(" + i + ", 0), empty", () -> twoBoxes(), quay -> quay.queued(worker, 0));
        }
        QuayMesh quay = Yard.withBoxesOnApron(1);
        quay.send(LIFT, 0, 0, 0);
        Check.same("queued(0, 0)", quay.queued(0, 0), 1);
        quay.deliver(0);
        Check.noIndex("queued(0, 0), acknowledged", quay, () -> quay.queued(0, 0));
    }

    private static void promise25AfterARefusal() {
        QuayMesh quay = Yard.withMostMessages();
        Check.noIndex("queued(1, 80)", quay, () -> quay.queued(1, 80));
        Check.noIndex("queued(8, 0)", quay, () -> quay.queued(8, 0));
        Check.same("queue(1)", quay.queue(1), 80);
        Check.same("queued(1, 0)", quay.queued(1, 0), 0);
        Check.same("handed(0)", quay.handed(0), 0);
    }

    // ---- seen

    private static void promise26Truck() {
        Document.promise(26, "`truck`: 4 to 7");
        QuayMesh quay = twoBoxes();
        for (int truck = 4; truck < 8; truck++) {
            int message = quay.send(CARRY, 0, 0, truck);
            quay.deliver(truck);
            Check.same("seen(" + truck + ")", quay.seen(truck), message);
        }
        Check.noIndex("seen(3)", quay, () -> quay.seen(3));
        Check.noIndex("seen(8)", quay, () -> quay.seen(8));
    }

    private static void promise26ReturnsTheMessage() {
        Document.promise(26, "Returns the message");
        QuayMesh quay = Yard.withBoxesOnApron(1);
        int first = quay.send(CARRY, 0, 0, 4);
        int second = quay.send(FETCH, 0, 0, 4);
        quay.deliver(4);
        Check.same("seen(4)", quay.seen(4), first);
        quay.deliver(4);
        Check.same("seen(4), the last one", quay.seen(4), second);
        quay.act(4);
        Check.same("seen(4), its box taken", quay.seen(4), second);
        Check.same("act(4)", quay.act(4), QuayMesh.NOT_YET);
        Check.same("seen(4), not to be done yet", quay.seen(4), second);
    }

    private static void promise26ReturnsNoneIfItHasSeenNone() {
        Document.promise(26, "NONE if it has seen none");
        QuayMesh quay = Yard.withBoxesOnApron(1);
        Check.same("seen(4), no message", quay.seen(4), NONE);
        quay.send(CARRY, 0, 0, 4);
        Check.same("seen(4), not delivered", quay.seen(4), NONE);
        quay.lose(4, 1, false);
        quay.deliver(4);
        Check.same("seen(4), lost", quay.seen(4), NONE);
        quay.deliver(4);
        Check.same("seen(4), delivered", quay.seen(4), 1);
        Check.same("seen(5), delivered to another", quay.seen(5), NONE);
    }

    private static void promise26ReturnsNoneIfThatWasDone() {
        Document.promise(26, "or that was done.");
        QuayMesh quay = Yard.withBoxesInStack(1);
        Check.same("seen(4), done", quay.seen(4), NONE);
        quay.send(CARRY, 0, 0, 5);
        quay.deliver(5);
        Check.same("seen(5)", quay.seen(5), 2);
        quay.lose(5, 1, true);
        quay.act(5);
        Check.same("seen(5), nothing to do, unheard", quay.seen(5), NONE);
        quay.deliver(5);
        Check.same("seen(5), acknowledged again", quay.seen(5), NONE);
    }

    private static void promise26Throws() {
        Document.promise(26, "Throws `IndexOutOfBoundsException` if there is no such truck");
        for (int truck : new int[] {LEAST, -1, 0, 3, 8, MOST}) {
            Refused.withIndex("seen(" + truck + ")", () -> twoBoxes(), quay -> quay.seen(truck));
        }
    }

    private static void promise26AfterARefusal() {
        QuayMesh quay = twoBoxes();
        quay.send(CARRY, 0, 0, 7);
        quay.deliver(7);
        Check.noIndex("seen(8)", quay, () -> quay.seen(8));
        Check.noIndex("seen(3)", quay, () -> quay.seen(3));
        Check.same("seen(7)", quay.seen(7), 0);
        Check.same("act(7)", quay.act(7), QuayMesh.NOT_YET);
    }

    // ---- handed and isDone

    private static void promise27Message() {
        Document.promise(27, "`message`: a message");
        QuayMesh quay = Yard.withMostMessages();
        quay.deliver(1);
        Check.same("handed(0), the first one", quay.handed(0), 1);
        Check.same("handed(79), the last one", quay.handed(79), 0);
        Check.noIndex("handed(-1)", quay, () -> quay.handed(-1));
        Check.noIndex("handed(80)", quay, () -> quay.handed(80));
    }

    /** Sent, lost, met by a silent one, not done yet, unheard, acknowledged, repeated: a time for each delivery. */
    private static void promise27Returns() {
        Document.promise(27, "Returns how often.");
        QuayMesh quay = Yard.withBoxes(6);
        quay.send(LIFT, 5, 0, 0);
        Check.same("handed(0), sent", quay.handed(0), 0);
        quay.lose(0, 1, false);
        quay.deliver(0);
        Check.same("handed(0), lost", quay.handed(0), 1);
        quay.silence(0, true);
        quay.deliver(0);
        Check.same("handed(0), met by a silent one", quay.handed(0), 2);
        quay.silence(0, false);
        quay.deliver(0);
        Check.same("handed(0), not done yet", quay.handed(0), 3);
        quay.park(1, 9);
        quay.lose(0, 1, true);
        quay.deliver(0);
        Check.same("handed(0), unheard", quay.handed(0), 4);
        quay.deliver(0);
        Check.same("handed(0), acknowledged", quay.handed(0), 5);
        quay.deliver(0);
        Check.same("handed(0), the queue empty", quay.handed(0), 5);
        quay.repeat(0);
        Check.same("handed(0), repeated", quay.handed(0), 5);
        quay.deliver(0);
        Check.same("handed(0), acknowledged again", quay.handed(0), 6);
    }

    /** An act hands nothing over, nor does giving away. */
    private static void promise27ReturnsDeliveriesAlone() {
        QuayMesh quay = Yard.withBoxesOnApron(1);
        quay.send(CARRY, 0, 0, 4);
        quay.deliver(4);
        quay.deliver(4);
        Check.same("handed(1), seen twice", quay.handed(1), 2);
        quay.act(4);
        quay.act(4);
        Check.same("handed(1), done", quay.handed(1), 2);
        quay.send(LIFT, 0, 0, 1);
        quay.silence(1, true);
        quay.giveAway(1, 2);
        Check.same("handed(2), given away", quay.handed(2), 0);
    }

    private static void promise27Throws() {
        Document.promise(27, "Throws `IndexOutOfBoundsException` if there is no such message");
        for (int message : new int[] {LEAST, -1, 1, 80, MOST}) {
            Refused.withIndex("handed(" + message + ")", () -> oneMessage(), quay -> quay.handed(message));
        }
    }

    private static void promise27AfterARefusal() {
        QuayMesh quay = oneMessage();
        Check.noIndex("handed(1)", quay, () -> quay.handed(1));
        Check.same("handed(0)", quay.handed(0), 0);
        Check.same("the next message", quay.send(LIFT, 0, 0, 0), 1);
        Check.same("handed(1)", quay.handed(1), 0);
    }

    private static QuayMesh oneMessage() {
        QuayMesh quay = twoBoxes();
        quay.send(LIFT, 0, 0, 0);
        return quay;
    }

    private static void promise28Message() {
        Document.promise(28, "`message`: a message");
        QuayMesh quay = Yard.withBoxes(1);
        for (int message = 0; message < 80; message++) {
            quay.send(LIFT, 0, 0, message == 79 ? 0 : 1);
        }
        quay.deliver(0);
        Check.same("isDone(0), the first one", quay.isDone(0), false);
        Check.same("isDone(79), the last one", quay.isDone(79), true);
        Check.noIndex("isDone(-1)", quay, () -> quay.isDone(-1));
        Check.noIndex("isDone(80)", quay, () -> quay.isDone(80));
    }

    private static void promise28Returns() {
        Document.promise(28, "Returns whether one was");
        QuayMesh quay = Yard.withBoxesOnApron(1);
        Check.same("isDone(0), the LIFT", quay.isDone(0), true);
        int carry = quay.send(CARRY, 0, 0, 4);
        Check.same("isDone, sent", quay.isDone(carry), false);
        quay.deliver(4);
        Check.same("isDone, seen", quay.isDone(carry), false);
        quay.act(4);
        Check.same("isDone, the box taken, which is no move", quay.isDone(carry), false);
        quay.act(4);
        Check.same("isDone, the box put down", quay.isDone(carry), true);
        int fetch = quay.send(FETCH, 0, 0, 4);
        quay.book(0, 0, 0);
        quay.deliver(4);
        quay.act(4);
        Check.same("isDone, the box taken for a gate", quay.isDone(fetch), false);
        quay.act(4);
        Check.same("isDone, the box gone", quay.isDone(fetch), true);
    }

    private static void promise28ReturnsNotForNothingToDo() {
        QuayMesh quay = Yard.withBoxesInStack(1);
        int lift = quay.send(LIFT, 0, 0, 0);
        Check.same("deliver(0)", quay.deliver(0), QuayMesh.ACKNOWLEDGED);
        Check.same("isDone of a LIFT, nothing to do", quay.isDone(lift), false);
        int carry = quay.send(CARRY, 0, 0, 4);
        quay.deliver(4);
        Check.same("act(4)", quay.act(4), QuayMesh.ACKNOWLEDGED);
        Check.same("isDone of a CARRY, nothing to do", quay.isDone(carry), false);
        quay.book(0, 0, 0);
        Yard.fetch(quay, 0, 0, 4);
        int fetch = quay.send(FETCH, 0, 0, 4);
        quay.deliver(4);
        Check.same("act(4)", quay.act(4), QuayMesh.ACKNOWLEDGED);
        Check.same("isDone of a FETCH, nothing to do", quay.isDone(fetch), false);
    }

    private static void promise28ReturnsBySomeWorker() {
        Document.promise(28, "by some worker");
        QuayMesh quay = oneMessage();
        quay.lose(0, 1, true);
        Check.same("deliver(0)", quay.deliver(0), QuayMesh.UNHEARD);
        Check.same("isDone(0), unheard", quay.isDone(0), true);
        quay.silence(0, true);
        quay.giveAway(0, 1);
        Check.same("isDone(0), given to one that has not made it", quay.isDone(0), true);
        quay.deliver(1);
        Check.same("isDone(0)", quay.isDone(0), true);
    }

    private static void promise28Throws() {
        Document.promise(28, "Throws `IndexOutOfBoundsException` if there is no such message");
        for (int message : new int[] {LEAST, -1, 1, 80, MOST}) {
            Refused.withIndex("isDone(" + message + ")", () -> oneMessage(), quay -> quay.isDone(message));
        }
    }

    private static void promise28AfterARefusal() {
        QuayMesh quay = oneMessage();
        Check.noIndex("isDone(1)", quay, () -> quay.isDone(1));
        Check.same("isDone(0)", quay.isDone(0), false);
        Check.same("deliver(0)", quay.deliver(0), QuayMesh.ACKNOWLEDGED);
        Check.same("isDone(0)", quay.isDone(0), true);
    }

    // ---- the log

    private static void promise29Returns() {
        Document.promise(29, "Returns how many moves are in the log.");
        QuayMesh quay = twoBoxes();
        Check.same("moves(), none", quay.moves(), 0);
        quay.lose(0, 1, true);
        quay.send(LIFT, 0, 0, 0);
        quay.deliver(0);
        Check.same("moves(), one made and unheard", quay.moves(), 0);
        quay.deliver(0);
        Check.same("moves(), one acknowledged", quay.moves(), 1);
        quay.repeat(0);
        quay.deliver(0);
        Check.same("moves(), that one acknowledged twice", quay.moves(), 1);
        quay.send(LIFT, 0, 0, 0);
        quay.deliver(0);
        Check.same("moves(), nothing to do acknowledged", quay.moves(), 1);
        Check.same("moves(), two for each of 24 boxes", Yard.withFullStacks().moves(), 48);
    }

    private static void promise30Move() {
        Document.promise(30, "`move`: from 0");
        QuayMesh quay = Yard.withFullStacks();
        Check.same("moveAt(0), the first one", quay.moveAt(0), 0);
        Check.same("moveAt(47), the last one", quay.moveAt(47), 47);
        Check.noIndex("moveAt(-1)", quay, () -> quay.moveAt(-1));
        Check.noIndex("moveAt(48)", quay, () -> quay.moveAt(48));
    }

    private static void promise30Returns() {
        Document.promise(30, "Returns its message.");
        QuayMesh quay = Yard.withBoxes(3);
        quay.send(LIFT, 2, 0, 0);
        quay.send(LIFT, 1, 0, 1);
        quay.send(LIFT, 1, 0, 0);
        Check.same("deliver(1), the second message first", quay.deliver(1), QuayMesh.ACKNOWLEDGED);
        quay.park(1, 5);
        quay.deliver(0);
        quay.deliver(0);
        Check.same("moves(), for two of three messages", quay.moves(), 2);
        Check.same("moveAt(0)", quay.moveAt(0), 1);
        Check.same("moveAt(1)", quay.moveAt(1), 0);
    }

    private static void promise30Throws() {
        Document.promise(30, "Throws `IndexOutOfBoundsException` if there are not so many");
        for (int move : new int[] {LEAST, -1, 1, 80, MOST}) {
            Refused.withIndex("moveAt(" + move + ")", () -> Yard.withBoxesOnApron(1), quay -> quay.moveAt(move));
        }
        Refused.withIndex("moveAt(0), none", () -> oneMessage(), quay -> quay.moveAt(0));
        QuayMesh unheard = oneMessage();
        unheard.lose(0, 1, true);
        unheard.deliver(0);
        Check.noIndex("moveAt(0), made but unheard", unheard, () -> unheard.moveAt(0));
        unheard.deliver(0);
        Check.same("moveAt(0), acknowledged", unheard.moveAt(0), 0);
    }

    private static void promise30AfterARefusal() {
        QuayMesh quay = Yard.withBoxesOnApron(2);
        Check.noIndex("moveAt(2)", quay, () -> quay.moveAt(2));
        Check.same("moves()", quay.moves(), 2);
        Check.same("unheard()", quay.unheard(), 0);
        Check.same("moveAt(1)", quay.moveAt(1), 1);
    }

    private static void promise31Returns() {
        Document.promise(31, "Returns how many moves were made that are not in the log.");
        QuayMesh quay = twoBoxes();
        Check.same("unheard(), none made", quay.unheard(), 0);
        quay.lose(0, 3, true);
        quay.send(LIFT, 0, 0, 0);
        quay.send(LIFT, 1, 0, 0);
        quay.deliver(0);
        Check.same("unheard(), one", quay.unheard(), 1);
        quay.deliver(0);
        Check.same("unheard(), two", quay.unheard(), 2);
        quay.deliver(0);
        Check.same("unheard(), one of them unheard twice", quay.unheard(), 2);
        quay.deliver(0);
        Check.same("unheard(), the other one acknowledged", quay.unheard(), 1);
        quay.deliver(0);
        Check.same("unheard(), both acknowledged", quay.unheard(), 0);
        quay.lose(0, 1, true);
        quay.send(LIFT, 1, 0, 0);
        quay.deliver(0);
        Check.same("unheard(), nothing to do, unheard", quay.unheard(), 0);
    }
}
