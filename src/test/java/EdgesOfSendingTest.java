/** Promise 5, and those calls that change what the broker does, 8 to 11, sentence by sentence. */
public final class EdgesOfSendingTest {
    private static final int LIFT = QuayMesh.LIFT;
    private static final int CARRY = QuayMesh.CARRY;
    private static final int FETCH = QuayMesh.FETCH;
    private static final int NONE = QuayMesh.NONE;
    private static final int LEAST = Integer.MIN_VALUE;
    private static final int MOST = Integer.MAX_VALUE;

    private EdgesOfSendingTest() {
    }

    public static void main(String[] args) {
        Tests.runAll(EdgesOfSendingTest.class);
        Document.requirePromises(5, 5);
        Document.requirePromises(8, 11);
        Check.end();
    }

    private static QuayMesh oneBox() {
        return Yard.withBoxes(1);
    }

    /** The LIFT 0 was acknowledged by crane 0, the CARRY 1 by truck 4; both queues are empty. */
    private static QuayMesh twoAcknowledged() {
        return Yard.withBoxesInStack(1);
    }

    // ---- send

    private static void promise5Kind() {
        Document.promise(5, "`kind`: LIFT, CARRY or FETCH");
        QuayMesh quay = oneBox();
        Check.same("send(LIFT, ..)", quay.send(0, 0, 0, 0), 0);
        Check.same("send(CARRY, ..)", quay.send(1, 0, 0, 4), 1);
        Check.same("send(FETCH, ..)", quay.send(2, 0, 0, 4), 2);
        Check.noArgument("send(-1, ..)", quay, () -> quay.send(-1, 0, 0, 0));
        Check.noArgument("send(3, ..)", quay, () -> quay.send(3, 0, 0, 4));
    }

    private static void promise5Box() {
        Document.promise(5, "`box`: a box");
        QuayMesh quay = Yard.withFullStacks();
        Check.same("send of the first box", quay.send(CARRY, 0, 0, 4), 48);
        Check.same("send of the last box", quay.send(CARRY, 23, 0, 4), 49);
        Check.noIndex("send of a box -1", quay, () -> quay.send(CARRY, -1, 0, 4));
        Check.noIndex("send of a box 24", quay, () -> quay.send(CARRY, 24, 0, 4));
        quay.book(0, 0, 23);
        Yard.fetch(quay, 23, 0, 5);
        Check.same("send of a box that is gone", quay.send(LIFT, 23, 0, 0), 51);
    }

    private static void promise5TargetOfCarry() {
        Document.promise(5, "`target`: a stack for CARRY");
        QuayMesh quay = oneBox();
        for (int stack = 0; stack < 6; stack++) {
            Check.same("CARRY to the stack " + stack, quay.send(CARRY, 0, stack, 4), stack);
        }
        Check.noIndex("CARRY to a stack -1", quay, () -> quay.send(CARRY, 0, -1, 4));
        Check.noIndex("CARRY to a stack 6", quay, () -> quay.send(CARRY, 0, 6, 4));
    }

    private static void promise5TargetOfFetch() {
        Document.promise(5, "a gate for FETCH");
        QuayMesh quay = oneBox();
        Check.same("FETCH to the gate 0", quay.send(FETCH, 0, 0, 4), 0);
        Check.same("FETCH to the gate 1", quay.send(FETCH, 0, 1, 4), 1);
        Check.noIndex("FETCH to a gate -1", quay, () -> quay.send(FETCH, 0, -1, 4));
        Check.noIndex("FETCH to a gate 2", quay, () -> quay.send(FETCH, 0, 2, 4));
    }

    private static void promise5TargetOfLift() {
        Document.promise(5, "0 for LIFT");
        QuayMesh quay = oneBox();
        Check.same("LIFT with the target 0", quay.send(LIFT, 0, 0, 0), 0);
        Check.noIndex("LIFT with a target -1", quay, () -> quay.send(LIFT, 0, -1, 0));
        Check.noIndex("LIFT with a target 1", quay, () -> quay.send(LIFT, 0, 1, 0));
    }

    private static void promise5WorkerIsACraneForLift() {
        Document.promise(5, "`worker`: a crane for LIFT");
        QuayMesh quay = oneBox();
        Check.same("LIFT by the crane 0", quay.send(LIFT, 0, 0, 0), 0);
        Check.same("LIFT by the crane 3", quay.send(LIFT, 0, 0, 3), 1);
        Check.noIndex("LIFT by a worker -2", quay, () -> quay.send(LIFT, 0, 0, -2));
        Check.noIndex("LIFT by the truck 4", quay, () -> quay.send(LIFT, 0, 0, 4));
        Check.noIndex("LIFT by the truck 7", quay, () -> quay.send(LIFT, 0, 0, 7));
        Check.noIndex("LIFT by a worker 8", quay, () -> quay.send(LIFT, 0, 0, 8));
    }

    private static void promise5WorkerIsATruckOtherwise() {
        Document.promise(5, "a truck otherwise");
        for (int kind = CARRY; kind <= FETCH; kind++) {
            QuayMesh quay = oneBox();
            int each = kind;
            String call = kind == CARRY ? "CARRY" : "FETCH";
            Check.same(call + " by the truck 4", quay.send(kind, 0, 0, 4), 0);
            Check.same(call + " by the truck 7", quay.send(kind, 0, 0, 7), 1);
            Check.noIndex(call + " by the crane 0", quay, () -> quay.send(each, 0, 0, 0));
            Check.noIndex(call + " by the crane 3", quay, () -> quay.send(each, 0, 0, 3));
            Check.noIndex(call + " by a worker 8", quay, () -> quay.send(each, 0, 0, 8));
            Check.noIndex(call + " by a worker -2", quay, () -> quay.send(each, 0, 0, -2));
        }
    }

    private static void promise5WorkerNoneIsOneOfTheKind() {
        Document.promise(5, "or NONE");
        QuayMesh quay = oneBox();
        quay.send(LIFT, 0, 0, NONE);
        Check.same("queue(0) after a LIFT to NONE", quay.queue(0), 1);
        quay.send(CARRY, 0, 0, NONE);
        Check.same("queue(4) after a CARRY to NONE", quay.queue(4), 1);
        quay.send(FETCH, 0, 0, NONE);
        Check.same("queue(5) after a FETCH to NONE", quay.queue(5), 1);
    }

    private static void promise5WorkerNoneIsNotSilent() {
        Document.promise(5, "of those that are not silent");
        QuayMesh quay = oneBox();
        quay.silence(0, true);
        quay.silence(1, true);
        quay.silence(2, true);
        quay.send(LIFT, 0, 0, 3);
        quay.send(LIFT, 0, 0, NONE);
        Check.same("queue(3), the only one not silent", quay.queue(3), 2);
        Check.same("queue(0), empty but silent", quay.queue(0), 0);
        quay.silence(1, false);
        quay.send(LIFT, 0, 0, NONE);
        Check.same("queue(1), which speaks again", quay.queue(1), 1);
    }

    /** Of four queues of 2, 2, 1 and 2 the third one is the one; one message more, and it is the lowest. */
    private static void promise5WorkerNoneHasTheFewest() {
        Document.promise(5, "the one with the fewest messages in its queue");
        for (int first = 0; first <= 4; first += 4) {
            for (int fewest = first; fewest < first + 4; fewest++) {
                QuayMesh quay = oneBox();
                int kind = first == 0 ? LIFT : CARRY;
                for (int worker = first; worker < first + 4; worker++) {
                    for (int i = 0; i < (worker == fewest ? 1 : 2); i++) {
                        quay.send(kind, 0, 0, worker);
                    }
                }
                int message = quay.send(kind, 0, 0, NONE);
                Check.same("queue(" + fewest + ")", quay.queue(fewest), 2);
                Check.same("queued(" + fewest + ", 1)", quay.queued(fewest, 1), message);
            }
        }
    }

    private static void promise5WorkerNoneIsTheLowestOfSeveral() {
        Document.promise(5, "of several the lowest");
        QuayMesh quay = oneBox();
        for (int round = 1; round <= 3; round++) {
            for (int crane = 0; crane < 4; crane++) {
                quay.send(LIFT, 0, 0, NONE);
                Check.same("queue(" + crane + ") in round " + round, quay.queue(crane), round);
            }
            for (int truck = 4; truck < 8; truck++) {
                quay.send(FETCH, 0, 0, NONE);
                Check.same("queue(" + truck + ") in round " + round, quay.queue(truck), round);
            }
        }
    }

    private static void promise5Returns() {
        Document.promise(5, "Returns the number of the message.");
        QuayMesh quay = oneBox();
        for (int message = 0; message < 80; message++) {
            int worker = message % 8;
            int kind = worker < 4 ? LIFT : CARRY;
            Check.same("the message to " + worker, quay.send(kind, 0, 0, worker), message);
            Check.same("queued last of " + worker, quay.queued(worker, message / 8), message);
        }
    }

    private static void promise5ThrowsNoSuchKind() {
        Document.promise(5, "Throws `IllegalArgumentException` if there is no such kind");
        for (int kind : new int[] {LEAST, -2, -1, 3, 4, MOST}) {
            Refused.withArgument("send(" + kind + ", 0, 0, 0)", () -> oneBox(), quay -> quay.send(kind, 0, 0, 0));
            Refused.withArgument("send(" + kind + ", 0, 0, 4)", () -> oneBox(), quay -> quay.send(kind, 0, 0, 4));
        }
    }

    private static void promise5ThrowsNoSuchBox() {
        Document.promise(5, "Throws `IndexOutOfBoundsException` if there is no such box");
        for (int box : new int[] {LEAST, -1, 1, 23, 24, MOST}) {
            Refused.withIndex("send of a box " + box, () -> oneBox(), quay -> quay.send(CARRY, box, 0, 4));
        }
        Refused.withIndex("send without boxes", QuayMesh::new, quay -> quay.send(LIFT, 0, 0, 0));
    }

    private static void promise5ThrowsNoSuchTarget() {
        Document.promise(5, "or target");
        for (int target : new int[] {LEAST, -1, 6, 10, MOST}) {
            for (int worker : new int[] {4, NONE}) {
                Refused.withIndex("CARRY to " + target, () -> oneBox(), quay -> quay.send(CARRY, 0, target, worker));
                Refused.withIndex("FETCH to " + target, () -> oneBox(), quay -> quay.send(FETCH, 0, target, worker));
            }
            Refused.withIndex("LIFT to " + target, () -> oneBox(), quay -> quay.send(LIFT, 0, target, 0));
        }
        Refused.withIndex("FETCH to 2", () -> oneBox(), quay -> quay.send(FETCH, 0, 2, 4));
        Refused.withIndex("LIFT to 1", () -> oneBox(), quay -> quay.send(LIFT, 0, 1, 0));
        Refused.withIndex("LIFT to 1 by NONE", () -> oneBox(), quay -> quay.send(LIFT, 0, 1, NONE));
    }

    private static void promise5ThrowsNoSuchWorker() {
        Document.promise(5, "or the worker is no such one");
        for (int worker : new int[] {LEAST, -2, 8, MOST}) {
            for (int kind = LIFT; kind <= FETCH; kind++) {
                int each = kind;
                Refused.withIndex("kind " + kind + " to " + worker, () -> oneBox(), quay -> quay.send(each, 0, 0, worker));
            }
        }
        for (int crane = 0; crane < 4; crane++) {
            int worker = crane;
            Refused.withIndex("CARRY to " + crane, () -> oneBox(), quay -> quay.send(CARRY, 0, 0, worker));
            Refused.withIndex("FETCH to " + crane, () -> oneBox(), quay -> quay.send(FETCH, 0, 0, worker));
            Refused.withIndex("LIFT to " + (crane + 4), () -> oneBox(), quay -> quay.send(LIFT, 0, 0, worker + 4));
        }
    }

    private static void promise5ThrowsEightyMessages() {
        Document.promise(5, "Throws `IllegalStateException` if there are 80 messages");
        QuayMesh quay = oneBox();
        for (int message = 0; message < 79; message++) {
            quay.send(LIFT, 0, 0, 0);
        }
        Check.same("the eightieth message", quay.send(CARRY, 0, 0, 4), 79);
        Check.noState("a LIFT as the eighty-first", quay, () -> quay.send(LIFT, 0, 0, 0));
        Check.noState("a CARRY as the eighty-first", quay, () -> quay.send(CARRY, 0, 0, 4));
        Check.noState("a FETCH as the eighty-first", quay, () -> quay.send(FETCH, 0, 0, NONE));
        for (int message = 0; message < 79; message++) {
            quay.deliver(0);
        }
        Check.same("queue(0), all acknowledged", quay.queue(0), 0);
        Check.noState("the eighty-first, others acknowledged", quay, () -> quay.send(LIFT, 0, 0, 0));
    }

    private static void promise5ThrowsAllSilent() {
        Document.promise(5, "or worker is NONE and all are silent");
        QuayMesh quay = oneBox();
        for (int crane = 0; crane < 4; crane++) {
            Check.same("LIFT to NONE, " + crane + " silent", quay.send(LIFT, 0, 0, NONE), crane);
            Check.same("queue of the lowest that speaks", quay.queue(crane), 1);
            quay.silence(crane, true);
        }
        Check.noState("LIFT to NONE, all silent", quay, () -> quay.send(LIFT, 0, 0, NONE));
        Check.same("LIFT to a silent one that is named", quay.send(LIFT, 0, 0, 0), 4);
        Check.same("CARRY to NONE, all cranes silent", quay.send(CARRY, 0, 0, NONE), 5);
        Check.same("FETCH to NONE, all cranes silent", quay.send(FETCH, 0, 0, NONE), 6);
    }

    private static void promise5FirstNamedIsThrown() {
        Refused.withArgument("no kind, no box", () -> oneBox(), quay -> quay.send(3, 1, 0, 0));
        Refused.withArgument("no kind, no target", () -> oneBox(), quay -> quay.send(-1, 0, 9, 0));
        Refused.withArgument("no kind, no worker", () -> oneBox(), quay -> quay.send(3, 0, 0, 8));
        Refused.withArgument("no kind, 80 messages", Yard::withMostMessages, quay -> quay.send(3, 0, 0, 0));
        Refused.withArgument("no kind, all silent", Yard::withSilentCranes, quay -> quay.send(-1, 0, 0, NONE));
        Refused.withIndex("no box, 80 messages", Yard::withMostMessages, quay -> quay.send(LIFT, 1, 0, 0));
        Refused.withIndex("no target, 80 messages", Yard::withMostMessages, quay -> quay.send(LIFT, 0, 1, 0));
        Refused.withIndex("no worker, 80 messages", Yard::withMostMessages, quay -> quay.send(LIFT, 0, 0, 4));
        Refused.withIndex("no box, all silent", Yard::withSilentCranes, quay -> quay.send(LIFT, 1, 0, NONE));
        Refused.withIndex("no target, all silent", Yard::withSilentCranes, quay -> quay.send(LIFT, 0, 1, NONE));
        Refused.withArgument("all three", Yard::withMostMessages, quay -> quay.send(3, 9, 9, 9));
    }

    private static void promise5AfterARefusal() {
        QuayMesh quay = oneBox();
        quay.send(LIFT, 0, 0, 1);
        Check.noArgument("no kind", quay, () -> quay.send(3, 0, 0, 0));
        Check.noIndex("no box", quay, () -> quay.send(LIFT, 1, 0, 0));
        Check.noIndex("no target", quay, () -> quay.send(CARRY, 0, 6, 4));
        Check.noIndex("no crane", quay, () -> quay.send(LIFT, 0, 0, 4));
        for (int worker = 0; worker < 8; worker++) {
            Check.same("queue(" + worker + ")", quay.queue(worker), worker == 1 ? 1 : 0);
        }
        Check.noIndex("handed(1), the refused one's number", quay, () -> quay.handed(1));
        Check.same("the next message", quay.send(LIFT, 0, 0, NONE), 1);
        Check.same("queued(0, 0)", quay.queued(0, 0), 1);
        QuayMesh full = Yard.withMostMessages();
        Check.noState("an eighty-first message", full, () -> full.send(CARRY, 0, 0, 4));
        Check.same("queue(4)", full.queue(4), 0);
        Check.same("deliver(4)", full.deliver(4), QuayMesh.EMPTY);
        Check.noIndex("isDone(80)", full, () -> full.isDone(80));
    }

    // ---- lose

    private static void promise8Worker() {
        Document.promise(8, "`worker`: 0 to 7");
        QuayMesh quay = new QuayMesh();
        for (int worker = 0; worker < 8; worker++) {
            Check.same("lose(" + worker + ", 1, true)", quay.lose(worker, 1, true), 1);
            Check.same("lose(" + worker + ", 2, false)", quay.lose(worker, 2, false), 2);
        }
        Check.noIndex("lose(-1, 1, true)", quay, () -> quay.lose(-1, 1, true));
        Check.noIndex("lose(8, 1, true)", quay, () -> quay.lose(8, 1, true));
    }

    private static void promise8Many() {
        Document.promise(8, "`many`: 1 to 9");
        QuayMesh quay = new QuayMesh();
        Check.same("lose(0, 1, true)", quay.lose(0, 1, true), 1);
        Check.same("lose(1, 9, true)", quay.lose(1, 9, true), 9);
        Check.noArgument("lose(2, 0, true)", quay, () -> quay.lose(2, 0, true));
        Check.noArgument("lose(2, 10, true)", quay, () -> quay.lose(2, 10, true));
    }

    private static void promise8AcknowledgementsOrMessages() {
        Document.promise(8, "`ofAcks`: whether acknowledgements are lost; otherwise messages are");
        QuayMesh quay = Yard.withBoxes(2);
        quay.send(LIFT, 0, 0, 0);
        quay.lose(0, 1, true);
        Check.same("deliver(0), an acknowledgement lost", quay.deliver(0), QuayMesh.UNHEARD);
        quay.lose(0, 1, false);
        Check.same("deliver(0), a message lost", quay.deliver(0), QuayMesh.LOST);
        Check.same("deliver(0), none lost", quay.deliver(0), QuayMesh.ACKNOWLEDGED);
    }

    /** As many are lost as are due, and not one more, of each sort on its own. */
    private static void promise8Returns() {
        Document.promise(8, "Returns how many of this sort are due then.");
        QuayMesh quay = Yard.withBoxes(1);
        Check.same("lose(0, 9, false)", quay.lose(0, 9, false), 9);
        Check.same("lose(0, 9, false) besides those", quay.lose(0, 9, false), 18);
        Check.same("lose(0, 3, true), the other sort", quay.lose(0, 3, true), 3);
        quay.send(LIFT, 0, 0, 0);
        for (int i = 17; i >= 0; i--) {
            Check.same("deliver(0)", quay.deliver(0), QuayMesh.LOST);
        }
        Check.same("lose(0, 1, false), all those over", quay.lose(0, 1, false), 1);
        Check.same("deliver(0)", quay.deliver(0), QuayMesh.LOST);
        Check.same("deliver(0)", quay.deliver(0), QuayMesh.UNHEARD);
        Check.same("lose(0, 1, true), one of three over", quay.lose(0, 1, true), 3);
        for (int i = 0; i < 3; i++) {
            Check.same("deliver(0)", quay.deliver(0), QuayMesh.UNHEARD);
        }
        Check.same("deliver(0), none due any more", quay.deliver(0), QuayMesh.ACKNOWLEDGED);
    }

    private static void promise8ThrowsNoSuchWorker() {
        Document.promise(8, "Throws `IndexOutOfBoundsException` if there is no such worker");
        for (int worker : new int[] {LEAST, -1, 8, MOST}) {
            Refused.withIndex("lose(" + worker + ", 1, true)", () -> oneBox(), quay -> quay.lose(worker, 1, true));
            Refused.withIndex("lose(" + worker + ", 9, false)", () -> oneBox(), quay -> quay.lose(worker, 9, false));
        }
    }

    private static void promise8ThrowsOutOfRange() {
        Document.promise(8, "Throws `IllegalArgumentException` if many is out of range");
        for (int many : new int[] {LEAST, -9, -1, 0, 10, MOST}) {
            Refused.withArgument("lose(0, " + many + ", true)", () -> oneBox(), quay -> quay.lose(0, many, true));
            Refused.withArgument("lose(7, " + many + ", false)", () -> oneBox(), quay -> quay.lose(7, many, false));
        }
    }

    private static void promise8FirstNamedIsThrown() {
        Refused.withIndex("lose(8, 0, true)", () -> oneBox(), quay -> quay.lose(8, 0, true));
        Refused.withIndex("lose(-1, 10, false)", () -> oneBox(), quay -> quay.lose(-1, 10, false));
    }

    private static void promise8AfterARefusal() {
        QuayMesh quay = Yard.withBoxes(1);
        quay.lose(0, 2, true);
        Check.noIndex("lose(8, 1, true)", quay, () -> quay.lose(8, 1, true));
        Check.noArgument("lose(0, 10, true)", quay, () -> quay.lose(0, 10, true));
        Check.noArgument("lose(0, -1, false)", quay, () -> quay.lose(0, -1, false));
        Check.same("lose(0, 1, true)", quay.lose(0, 1, true), 3);
        Check.same("lose(7, 1, true)", quay.lose(7, 1, true), 1);
        quay.send(LIFT, 0, 0, 0);
        Check.same("deliver(0), no message lost", quay.deliver(0), QuayMesh.UNHEARD);
    }

    // ---- repeat

    private static void promise9LostAcknowledgementsDoNotCount() {
        Document.promise(9, "(an acknowledgement that was lost does not count)");
        QuayMesh quay = Yard.withBoxes(2);
        quay.send(LIFT, 0, 0, 0);
        quay.send(LIFT, 1, 0, 0);
        Check.same("deliver(0) of the first one", quay.deliver(0), QuayMesh.ACKNOWLEDGED);
        quay.lose(0, 1, true);
        Check.same("deliver(0) of the second one", quay.deliver(0), QuayMesh.UNHEARD);
        Check.same("repeat(0), the first one", quay.repeat(0), 0);
        Check.same("queue(0)", quay.queue(0), 2);
    }

    private static void promise9ToTheEndOfTheQueue() {
        Document.promise(9, "it comes to the end of the queue again");
        QuayMesh empty = twoAcknowledged();
        empty.repeat(0);
        Check.same("queued(0, 0), the queue was empty", empty.queued(0, 0), 0);
        QuayMesh longer = Yard.withBoxes(1);
        longer.send(LIFT, 0, 0, 0);
        longer.deliver(0);
        for (int message = 1; message < 80; message++) {
            longer.send(LIFT, 0, 0, 0);
        }
        Check.same("repeat(0) behind 79 others", longer.repeat(0), 0);
        Check.same("queue(0)", longer.queue(0), 80);
        Check.same("queued(0, 79)", longer.queued(0, 79), 0);
        Check.same("queued(0, 0)", longer.queued(0, 0), 1);
    }

    private static void promise9Worker() {
        Document.promise(9, "`worker`: 0 to 7");
        QuayMesh quay = Yard.withBoxes(1);
        for (int worker = 0; worker < 8; worker++) {
            quay.send(worker < 4 ? LIFT : CARRY, 0, 0, worker);
            quay.deliver(worker);
            if (worker >= 4) {
                quay.act(worker);
            }
            if (worker == 4) {
                quay.act(worker);
            }
        }
        for (int worker = 0; worker < 8; worker++) {
            Check.same("repeat(" + worker + ")", quay.repeat(worker), worker);
        }
        Check.noIndex("repeat(-1)", quay, () -> quay.repeat(-1));
        Check.noIndex("repeat(8)", quay, () -> quay.repeat(8));
    }

    private static void promise9Returns() {
        Document.promise(9, "Returns the message.");
        QuayMesh quay = twoAcknowledged();
        Check.same("repeat(4)", quay.repeat(4), 1);
        Check.same("repeat(0)", quay.repeat(0), 0);
        Check.same("deliver(0)", quay.deliver(0), QuayMesh.ACKNOWLEDGED);
        Check.same("repeat(0) of what was repeated", quay.repeat(0), 0);
    }

    private static void promise9ThrowsNoSuchWorker() {
        Document.promise(9, "Throws `IndexOutOfBoundsException` if there is no such worker");
        for (int worker : new int[] {LEAST, -1, 8, MOST}) {
            Refused.withIndex("repeat(" + worker + ")", () -> twoAcknowledged(), quay -> quay.repeat(worker));
        }
    }

    private static void promise9ThrowsNoneAcknowledged() {
        Document.promise(9, "Throws `IllegalStateException` if the worker has acknowledged none");
        for (int i = 0; i < 8; i++) {
            int worker = i;
            if (i != 0 && i != 4) {
                Refused.withState("repeat(" + i + ")", () -> twoAcknowledged(), quay -> quay.repeat(worker));
            }
        }
        QuayMesh unheard = Yard.withBoxes(1);
        unheard.lose(0, 1, true);
        unheard.send(LIFT, 0, 0, 0);
        unheard.deliver(0);
        unheard.silence(0, true);
        unheard.giveAway(0, 1);
        Check.same("deliver(1)", unheard.deliver(1), QuayMesh.ACKNOWLEDGED);
        Check.noState("repeat(0), unheard, in no queue any more", unheard, () -> unheard.repeat(0));
        Check.same("repeat(1), which has acknowledged it", unheard.repeat(1), 0);
    }

    private static void promise9ThrowsWhileInAQueue() {
        Document.promise(9, "or that one is in a queue");
        QuayMesh quay = Yard.withBoxes(1);
        Yard.lift(quay, 0, 0);
        Check.same("repeat(0)", quay.repeat(0), 0);
        Check.noState("repeat(0) again", quay, () -> quay.repeat(0));
        quay.silence(0, true);
        quay.giveAway(0, 3);
        Check.noState("repeat(0), in the queue of another crane", quay, () -> quay.repeat(0));
        Check.same("deliver(3)", quay.deliver(3), QuayMesh.ACKNOWLEDGED);
        Check.same("repeat(3)", quay.repeat(3), 0);
        Check.noState("repeat(0), in another's queue by repetition", quay, () -> quay.repeat(0));
        Check.same("deliver(3)", quay.deliver(3), QuayMesh.ACKNOWLEDGED);
        Check.same("repeat(0), in no queue", quay.repeat(0), 0);
        Check.same("queued(0, 0)", quay.queued(0, 0), 0);
    }

    /** A worker that is none has acknowledged none either. */
    private static void promise9FirstNamedIsThrown() {
        Refused.withIndex("repeat(8), nothing acknowledged", () -> oneBox(), quay -> quay.repeat(8));
        Refused.withIndex("repeat(-1), nothing acknowledged", () -> oneBox(), quay -> quay.repeat(-1));
    }

    private static void promise9AfterARefusal() {
        QuayMesh quay = twoAcknowledged();
        quay.repeat(4);
        Check.noIndex("repeat(8)", quay, () -> quay.repeat(8));
        Check.noState("repeat(1)", quay, () -> quay.repeat(1));
        Check.noState("repeat(4)", quay, () -> quay.repeat(4));
        Check.same("queue(1)", quay.queue(1), 0);
        Check.same("queue(4)", quay.queue(4), 1);
        Check.same("deliver(4)", quay.deliver(4), QuayMesh.ACKNOWLEDGED);
        Check.same("deliver(4), it was there once", quay.deliver(4), QuayMesh.EMPTY);
        Check.same("repeat(0)", quay.repeat(0), 0);
    }

    // ---- silence

    private static void promise10Crane() {
        Document.promise(10, "`crane`: 0 to 3");
        QuayMesh quay = new QuayMesh();
        Check.same("silence(0, true)", quay.silence(0, true), false);
        Check.same("silence(3, true)", quay.silence(3, true), false);
        Check.noIndex("silence(-1, true)", quay, () -> quay.silence(-1, true));
        Check.noIndex("silence(4, true)", quay, () -> quay.silence(4, true));
    }

    private static void promise10IsSilent() {
        Document.promise(10, "`isSilent`: whether it is silent from now on");
        QuayMesh quay = Yard.withBoxes(1);
        quay.send(LIFT, 0, 0, 0);
        quay.silence(0, true);
        Check.same("deliver(0)", quay.deliver(0), QuayMesh.SILENT);
        quay.silence(0, true);
        Check.same("deliver(0), silent once more", quay.deliver(0), QuayMesh.SILENT);
        quay.silence(0, false);
        Check.same("deliver(0), speaking", quay.deliver(0), QuayMesh.ACKNOWLEDGED);
        quay.silence(0, false);
        Check.same("deliver(0)", quay.deliver(0), QuayMesh.EMPTY);
    }

    private static void promise10Returns() {
        Document.promise(10, "Returns whether it was.");
        for (int crane = 0; crane < 4; crane++) {
            QuayMesh quay = new QuayMesh();
            Check.same("silence(" + crane + ", false), new", quay.silence(crane, false), false);
            Check.same("silence(" + crane + ", true)", quay.silence(crane, true), false);
            Check.same("silence(" + crane + ", true)", quay.silence(crane, true), true);
            Check.same("silence of the next one", quay.silence((crane + 1) % 4, true), false);
            Check.same("silence(" + crane + ", false)", quay.silence(crane, false), true);
            Check.same("silence(" + crane + ", false)", quay.silence(crane, false), false);
        }
    }

    private static void promise10ThrowsNoSuchCrane() {
        Document.promise(10, "Throws `IndexOutOfBoundsException` if there is no such crane");
        for (int crane : new int[] {LEAST, -1, 4, 7, MOST}) {
            Refused.withIndex("silence(" + crane + ", true)", () -> oneBox(), quay -> quay.silence(crane, true));
            Refused.withIndex("silence(" + crane + ", false)", Yard::withSilentCranes, quay -> quay.silence(crane, false));
        }
    }

    private static void promise10AfterARefusal() {
        QuayMesh quay = Yard.withBoxes(1);
        quay.send(CARRY, 0, 0, 4);
        quay.send(LIFT, 0, 0, 0);
        Check.noIndex("silence(4, true)", quay, () -> quay.silence(4, true));
        Check.noIndex("silence(-1, true)", quay, () -> quay.silence(-1, true));
        Check.same("deliver(4), of no silent truck", quay.deliver(4), QuayMesh.SEEN);
        Check.same("deliver(0), of no silent crane", quay.deliver(0), QuayMesh.ACKNOWLEDGED);
        Check.same("silence(3, true)", quay.silence(3, true), false);
    }

    // ---- giveAway

    private static void promise11Crane() {
        Document.promise(11, "`crane`: 0 to 3");
        for (int i = 0; i < 4; i++) {
            int crane = i;
            QuayMesh quay = Yard.withSilentCranes();
            quay.send(LIFT, 0, 0, crane);
            Check.same("giveAway(" + crane + ", ..)", quay.giveAway(crane, 3 - crane), 1);
        }
        Refused.withIndex("giveAway(-1, 0)", Yard::withSilentCranes, quay -> quay.giveAway(-1, 0));
        Refused.withIndex("giveAway(4, 0)", Yard::withSilentCranes, quay -> quay.giveAway(4, 0));
    }

    private static void promise11Other() {
        Document.promise(11, "`other`: 0 to 3");
        QuayMesh quay = Yard.withSilentCranes();
        quay.send(LIFT, 0, 0, 1);
        Check.same("giveAway(1, 0)", quay.giveAway(1, 0), 1);
        Check.same("giveAway(0, 3)", quay.giveAway(0, 3), 1);
        Check.same("queued(3, 0)", quay.queued(3, 0), 0);
        Refused.withIndex("giveAway(0, -1)", Yard::withSilentCranes, each -> each.giveAway(0, -1));
        Refused.withIndex("giveAway(0, 4)", Yard::withSilentCranes, each -> each.giveAway(0, 4));
    }

    private static void promise11Returns() {
        Document.promise(11, "Returns how many they are.");
        QuayMesh none = Yard.withSilentCranes();
        Check.same("giveAway(0, 1), an empty queue", none.giveAway(0, 1), 0);
        QuayMesh most = Yard.withMostMessages();
        most.silence(1, true);
        Check.same("giveAway(1, 2), all 80", most.giveAway(1, 2), 80);
        Check.same("queue(1)", most.queue(1), 0);
        Check.same("queue(2)", most.queue(2), 80);
        Check.same("giveAway(1, 2) again", most.giveAway(1, 2), 0);
        Check.same("queue(2)", most.queue(2), 80);
    }

    private static void promise11ThrowsNoSuchCrane() {
        Document.promise(11, "Throws `IndexOutOfBoundsException` if there is no such crane, of either");
        for (int crane : new int[] {LEAST, -1, 4, 7, MOST}) {
            Refused.withIndex("giveAway(" + crane + ", 0)", Yard::withSilentCranes, quay -> quay.giveAway(crane, 0));
            Refused.withIndex("giveAway(0, " + crane + ")", Yard::withSilentCranes, quay -> quay.giveAway(0, crane));
        }
    }

    private static void promise11ThrowsNotSilent() {
        Document.promise(11, "Throws `IllegalStateException` if the first one is not silent");
        for (int i = 0; i < 4; i++) {
            int crane = i;
            int other = 3 - i;
            Refused.withState("giveAway(" + crane + ", " + other + "), none silent", Yard::withMostMessages,
                quay -> quay.giveAway(crane, other));
            Refused.withState("giveAway(" + crane + ", " + other + "), the other one silent",
                () -> silentAlone(other), quay -> quay.giveAway(crane, other));
            Check.same("giveAway(" + crane + ", " + other + "), silent", silentAlone(crane).giveAway(crane, other), 0);
        }
        QuayMesh again = silentAlone(2);
        again.silence(2, false);
        Check.noState("giveAway(2, 0), speaking again", again, () -> again.giveAway(2, 0));
    }

    private static QuayMesh silentAlone(int crane) {
        QuayMesh quay = Yard.withBoxes(1);
        quay.silence(crane, true);
        return quay;
    }

    private static void promise11ThrowsBothTheSame() {
        Document.promise(11, "or both are the same");
        for (int i = 0; i < 4; i++) {
            int crane = i;
            Refused.withState("giveAway(" + crane + ", " + crane + ")", Yard::withSilentCranes,
                quay -> quay.giveAway(crane, crane));
        }
    }

    private static void promise11FirstNamedIsThrown() {
        Refused.withIndex("giveAway(0, 4), not silent", () -> oneBox(), quay -> quay.giveAway(0, 4));
        Refused.withIndex("giveAway(0, -1), not silent", () -> oneBox(), quay -> quay.giveAway(0, -1));
        Refused.withIndex("giveAway(4, 4), the same", () -> oneBox(), quay -> quay.giveAway(4, 4));
        Refused.withIndex("giveAway(-1, -1), the same", Yard::withSilentCranes, quay -> quay.giveAway(-1, -1));
    }

    private static void promise11AfterARefusal() {
        QuayMesh quay = Yard.withBoxes(3);
        quay.send(LIFT, 0, 0, 0);
        quay.send(LIFT, 1, 0, 0);
        quay.send(LIFT, 2, 0, 1);
        Check.noState("giveAway(0, 1)", quay, () -> quay.giveAway(0, 1));
        Check.noIndex("giveAway(0, 4)", quay, () -> quay.giveAway(0, 4));
        quay.silence(0, true);
        Check.noState("giveAway(0, 0)", quay, () -> quay.giveAway(0, 0));
        Check.same("queue(0)", quay.queue(0), 2);
        Check.same("queued(0, 0)", quay.queued(0, 0), 0);
        Check.same("queued(0, 1)", quay.queued(0, 1), 1);
        Check.same("queue(1)", quay.queue(1), 1);
        Check.same("queue(4)", quay.queue(4), 0);
        Check.same("deliver(0), still silent", quay.deliver(0), QuayMesh.SILENT);
    }
}
