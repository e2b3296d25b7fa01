/** "Terms", from "Delivery." to what is given away. */
final class TermsOfDeliveries {
    private static final int LIFT = QuayMesh.LIFT;
    private static final int CARRY = QuayMesh.CARRY;
    private static final int NONE = QuayMesh.NONE;

    private TermsOfDeliveries() {
    }

    /** The queue of a worker from its first message on, written as digits. */
    private static int queueOf(QuayMesh quay, int worker) {
        int digits = 0;
        for (int k = 0; k < quay.queue(worker); k++) {
            digits = 10 * digits + quay.queued(worker, k);
        }
        return digits;
    }

    /** LIFTs 0 to 3, of the boxes at the places 1 to 4, in the queue of crane 0. */
    private static QuayMesh fourLifts() {
        QuayMesh quay = Yard.withBoxes(8);
        for (int place = 1; place < 5; place++) {
            quay.send(LIFT, place, 0, 0);
        }
        return quay;
    }

    // ---- to deliver

    private static void termsTheFirstMessageIsHandedOver() {
        Document.terms("Delivery. To deliver to a worker is to hand over the first message of its queue.");
        QuayMesh quay = fourLifts();
        quay.send(LIFT, 6, 0, 1);
        for (int message = 0; message < 4; message++) {
            Check.same("deliver(0)", quay.deliver(0), QuayMesh.ACKNOWLEDGED);
            for (int other = 0; other < 5; other++) {
                Check.same("handed(" + other + ")", quay.handed(other), other <= message ? 1 : 0);
            }
        }
        Check.same("queue(1), another worker's", quay.queue(1), 1);
    }

    private static void termsALossOfAMessage() {
        Document.terms("If a loss is due for the worker, the message is lost on the way, and the loss is not due any more.");
        QuayMesh quay = fourLifts();
        quay.lose(0, 2, false);
        Check.same("deliver(0)", quay.deliver(0), QuayMesh.LOST);
        Check.same("whereIs(1), not lifted", quay.whereIs(1), 1);
        Check.same("placeOf(0), which has not gone", quay.placeOf(0), 0);
        Check.same("deliver(0), the second loss", quay.deliver(0), QuayMesh.LOST);
        Check.same("deliver(0), none due any more", quay.deliver(0), QuayMesh.ACKNOWLEDGED);
        Check.same("whereIs(3)", quay.whereIs(3), 103);
    }

    /** A loss on the way comes before all that the worker would do. */
    private static void termsALossComesFirst() {
        QuayMesh quay = Yard.withBoxesInStack(1);
        quay.repeat(0);
        quay.repeat(4);
        quay.lose(0, 2, false);
        quay.lose(0, 1, true);
        quay.lose(4, 1, false);
        Check.same("deliver(0) of what it has done", quay.deliver(0), QuayMesh.LOST);
        quay.silence(0, true);
        Check.same("deliver(0), silent", quay.deliver(0), QuayMesh.LOST);
        Check.same("deliver(0), silent, none due", quay.deliver(0), QuayMesh.SILENT);
        Check.same("deliver(4) of what it has done", quay.deliver(4), QuayMesh.LOST);
        Check.same("lose(0, 1, true), the acknowledgement's loss due still", quay.lose(0, 1, true), 2);
    }

    private static void termsALossIsNotSeen() {
        QuayMesh quay = Yard.withBoxesOnApron(2);
        quay.send(CARRY, 0, 0, 4);
        quay.send(CARRY, 1, 0, 4);
        quay.deliver(4);
        quay.lose(4, 1, false);
        Check.same("deliver(4)", quay.deliver(4), QuayMesh.LOST);
        Check.same("seen(4), the one before", quay.seen(4), 2);
    }

    private static void termsASilentWorkerDoesNothing() {
        Document.terms("If the worker is silent, nothing happens.");
        QuayMesh quay = fourLifts();
        quay.lose(0, 1, true);
        quay.silence(0, true);
        for (int i = 0; i < 4; i++) {
            Check.same("deliver(0)", quay.deliver(0), QuayMesh.SILENT);
        }
        Check.same("queue(0)", quay.queue(0), 4);
        Check.same("placeOf(0)", quay.placeOf(0), 0);
        Check.same("moves()", quay.moves(), 0);
        Check.same("unheard()", quay.unheard(), 0);
        Check.same("whereIs(1)", quay.whereIs(1), 1);
        Check.same("lose(0, 1, true), that one due still", quay.lose(0, 1, true), 2);
        Check.same("handed(0)", quay.handed(0), 1);
    }

    private static void termsASilentWorkerDoesNotAcknowledgeAgain() {
        QuayMesh quay = Yard.withBoxes(2);
        quay.lose(0, 1, true);
        quay.send(LIFT, 1, 0, 0);
        quay.deliver(0);
        quay.silence(0, true);
        Check.same("deliver(0) of what it has done", quay.deliver(0), QuayMesh.SILENT);
        Check.same("moves()", quay.moves(), 0);
        quay.silence(0, false);
        Check.same("deliver(0), speaking again", quay.deliver(0), QuayMesh.ACKNOWLEDGED);
        Check.same("moves()", quay.moves(), 1);
    }

    /** The crane does not go there again; the truck does not take the box again, and keeps what it has seen. */
    private static void termsWhatWasDoneIsOnlyAcknowledgedAgain() {
        Document.terms("Otherwise, if the worker has done this message before, it only acknowledges it again.");
        QuayMesh quay = Yard.withBoxesInStack(1);
        quay.park(0, 8);
        Yard.carry(quay, 0, 5, 6);
        quay.repeat(0);
        quay.repeat(4);
        int moves = quay.moves();
        Check.same("deliver(0)", quay.deliver(0), QuayMesh.ACKNOWLEDGED);
        Check.same("placeOf(0)", quay.placeOf(0), 8);
        Check.same("deliver(4)", quay.deliver(4), QuayMesh.ACKNOWLEDGED);
        Check.same("seen(4)", quay.seen(4), NONE);
        Check.same("act(4)", quay.act(4), QuayMesh.EMPTY);
        Check.same("whereIs(0)", quay.whereIs(0), 350);
        Check.same("moves()", quay.moves(), moves);
        Check.same("unheard()", quay.unheard(), 0);
        Check.same("queue(0)", quay.queue(0), 0);
        Check.same("queue(4)", quay.queue(4), 0);
    }

    private static void termsWhatWasDoneDoesNotPutOutWhatIsSeen() {
        QuayMesh quay = Yard.withBoxesOnApron(2);
        Yard.carry(quay, 0, 0, 4);
        quay.repeat(4);
        int other = quay.send(CARRY, 1, 0, 4);
        quay.lose(4, 1, false);
        quay.deliver(4);
        quay.deliver(4);
        Check.same("seen(4)", quay.seen(4), other);
        Check.same("deliver(4) of what it has done", quay.deliver(4), QuayMesh.ACKNOWLEDGED);
        Check.same("seen(4)", quay.seen(4), other);
    }

    private static void termsACraneDoesItAtOnce() {
        Document.terms("Otherwise a crane does it at once, if it can be done, remembers that, and acknowledges it");
        QuayMesh quay = fourLifts();
        quay.lose(0, 1, true);
        Check.same("deliver(0)", quay.deliver(0), QuayMesh.UNHEARD);
        Check.same("whereIs(1)", quay.whereIs(1), 101);
        Check.same("isDone(0)", quay.isDone(0), true);
        quay.park(0, 0);
        quay.deliver(0);
        quay.deliver(0);
        quay.deliver(0);
        Check.same("placeOf(0), having lifted the last one", quay.placeOf(0), 4);
        Check.same("deliver(0) of what it remembers", quay.deliver(0), QuayMesh.ACKNOWLEDGED);
        Check.same("placeOf(0), which has not gone there", quay.placeOf(0), 4);
        Check.same("queue(0)", quay.queue(0), 0);
    }

    private static void termsACraneDoesNotYet() {
        QuayMesh quay = Yard.withBoxes(8);
        quay.lose(0, 1, true);
        quay.send(LIFT, 6, 0, 0);
        Check.same("deliver(0), beyond crane 1", quay.deliver(0), QuayMesh.NOT_YET);
        Check.same("isDone(0)", quay.isDone(0), false);
        Check.same("lose(0, 1, true), none was lost", quay.lose(0, 1, true), 2);
        Check.same("queue(0)", quay.queue(0), 1);
        Check.noState("repeat(0), nothing acknowledged", quay, () -> quay.repeat(0));
    }

    private static void termsACraneWithNothingToDo() {
        Document.terms("or, if there is nothing to do, only acknowledges it");
        QuayMesh quay = fourLifts();
        quay.send(LIFT, 1, 0, 1);
        quay.deliver(0);
        quay.lose(1, 1, true);
        Check.same("deliver(1), unheard", quay.deliver(1), QuayMesh.UNHEARD);
        Check.same("deliver(1)", quay.deliver(1), QuayMesh.ACKNOWLEDGED);
        Check.same("placeOf(1)", quay.placeOf(1), 5);
        Check.same("isDone(4)", quay.isDone(4), false);
        Check.same("unheard()", quay.unheard(), 0);
        Check.same("moves()", quay.moves(), 1);
        Check.same("repeat(1)", quay.repeat(1), 4);
    }

    private static void termsATruckHasSeenIt() {
        Document.terms("a truck has seen it then, and forgets any other one that it has seen");
        QuayMesh quay = Yard.withBoxesOnApron(2);
        int first = quay.send(CARRY, 0, 0, 4);
        int second = quay.send(CARRY, 1, 1, 4);
        quay.deliver(4);
        Check.same("seen(4)", quay.seen(4), first);
        quay.deliver(4);
        Check.same("seen(4)", quay.seen(4), second);
        quay.act(4);
        quay.act(4);
        Check.same("seen(4), the other one forgotten", quay.seen(4), NONE);
        Check.same("whereIs(0)", quay.whereIs(0), 100);
        Check.same("whereIs(1)", quay.whereIs(1), 310);
    }

    private static void termsATruckForgetsAlsoWhatItHasTaken() {
        Document.terms("also if it has taken the box of that.");
        QuayMesh quay = Yard.withBoxesOnApron(2);
        quay.send(CARRY, 0, 0, 4);
        quay.send(CARRY, 1, 1, 4);
        quay.deliver(4);
        quay.act(4);
        quay.deliver(4);
        Check.same("seen(4)", quay.seen(4), 3);
        Check.same("act(4), the first box on it", quay.act(4), QuayMesh.NOT_YET);
        Check.same("whereIs(0), still on it", quay.whereIs(0), 204);
        quay.deliver(4);
        Check.same("act(4) of the first one, seen again", quay.act(4), QuayMesh.ACKNOWLEDGED);
        Check.same("whereIs(0)", quay.whereIs(0), 300);
    }

    // ---- to act

    private static void termsATruckActsOnTheLastSeen() {
        Document.terms("A truck acts on the message that it has seen last:");
        QuayMesh quay = Yard.withBoxesOnApron(3);
        for (int box = 0; box < 3; box++) {
            quay.send(CARRY, box, box, 4);
            quay.deliver(4);
            while (quay.seen(4) != 3 + box) {
                quay.deliver(4);
            }
        }
        Check.same("act(4)", quay.act(4), QuayMesh.TAKEN);
        Check.same("whereIs(2)", quay.whereIs(2), 204);
        Check.same("whereIs(0)", quay.whereIs(0), 100);
    }

    /** One act takes, another one puts down: never both. */
    private static void termsAnActTakesOrPutsDown() {
        Document.terms("by an act it takes the box, or puts it down (or lets it leave)");
        QuayMesh quay = Yard.withBoxesOnApron(1);
        quay.send(CARRY, 0, 0, 4);
        quay.deliver(4);
        Check.same("act(4)", quay.act(4), QuayMesh.TAKEN);
        Check.same("whereIs(0), taken", quay.whereIs(0), 204);
        Check.same("act(4)", quay.act(4), QuayMesh.ACKNOWLEDGED);
        Check.same("whereIs(0), put down", quay.whereIs(0), 300);
        quay.book(1, 0, 0);
        quay.send(QuayMesh.FETCH, 0, 1, 5);
        quay.deliver(5);
        Check.same("act(5)", quay.act(5), QuayMesh.TAKEN);
        Check.same("whereIs(0), taken", quay.whereIs(0), 205);
        Check.same("act(5)", quay.act(5), QuayMesh.ACKNOWLEDGED);
        Check.same("whereIs(0), gone", quay.whereIs(0), 401);
    }

    private static void termsATruckRemembersWhatIsDone() {
        Document.terms("when the message is done, or there is nothing to do, the truck remembers that");
        QuayMesh done = Yard.withBoxesInStack(1);
        Yard.carry(done, 0, 1, 5);
        done.repeat(4);
        Check.same("deliver(4) of what was done", done.deliver(4), QuayMesh.ACKNOWLEDGED);
        QuayMesh nothing = Yard.withBoxesInStack(1);
        nothing.send(CARRY, 0, 0, 5);
        nothing.deliver(5);
        nothing.act(5);
        Yard.carry(nothing, 0, 1, 6);
        nothing.repeat(5);
        Check.same("deliver(5) of what there was nothing to do for", nothing.deliver(5), QuayMesh.ACKNOWLEDGED);
        Check.same("seen(5)", nothing.seen(5), NONE);
        Check.same("whereIs(0)", nothing.whereIs(0), 310);
    }

    private static void termsATruckHasSeenNoneAnyMore() {
        Document.terms("has seen none any more, and acknowledges it.");
        QuayMesh quay = Yard.withBoxesInStack(1);
        Check.same("seen(4), done", quay.seen(4), NONE);
        Check.same("queue(4), done", quay.queue(4), 0);
        quay.send(CARRY, 0, 0, 5);
        quay.deliver(5);
        Check.same("act(5), nothing to do", quay.act(5), QuayMesh.ACKNOWLEDGED);
        Check.same("seen(5), nothing to do", quay.seen(5), NONE);
        Check.same("queue(5), nothing to do", quay.queue(5), 0);
    }

    // ---- to acknowledge

    private static void termsALossOfAnAcknowledgement() {
        Document.terms("To acknowledge: if a loss of an acknowledgement is due for the worker, that is lost, and not due any more");
        QuayMesh quay = fourLifts();
        quay.lose(0, 2, true);
        Check.same("deliver(0)", quay.deliver(0), QuayMesh.UNHEARD);
        Check.same("deliver(0)", quay.deliver(0), QuayMesh.UNHEARD);
        Check.same("deliver(0), none due any more", quay.deliver(0), QuayMesh.ACKNOWLEDGED);
        Check.same("moves()", quay.moves(), 1);
        Check.same("unheard()", quay.unheard(), 2);
    }

    private static void termsUnheardStaysInTheQueue() {
        Document.terms("the message stays in the queue.");
        QuayMesh quay = fourLifts();
        quay.lose(0, 1, true);
        quay.deliver(0);
        Check.same("the queue", queueOf(quay, 0), 1230);
        QuayMesh truck = Yard.withBoxesOnApron(1);
        truck.send(CARRY, 0, 0, 4);
        truck.lose(4, 1, true);
        truck.deliver(4);
        truck.act(4);
        Check.same("act(4)", truck.act(4), QuayMesh.UNHEARD);
        Check.same("the queue", queueOf(truck, 4), 1);
        Check.same("queue(4)", truck.queue(4), 1);
    }

    private static void termsAcknowledgedLeavesTheQueue() {
        Document.terms("Otherwise the message is ACKNOWLEDGED, and leaves the queue");
        QuayMesh quay = fourLifts();
        Check.same("deliver(0)", quay.deliver(0), QuayMesh.ACKNOWLEDGED);
        Check.same("queue(0)", quay.queue(0), 3);
        Check.same("the queue", queueOf(quay, 0), 123);
    }

    private static void termsAMoveByWhicheverWorkerComesIntoTheLog() {
        Document.terms("and if a move was made for it, by whichever worker, that is not in the log, it comes into the log.");
        QuayMesh quay = Yard.withBoxes(2);
        int lift = quay.send(LIFT, 1, 0, 0);
        quay.lose(0, 1, true);
        quay.deliver(0);
        Check.same("moves(), unheard", quay.moves(), 0);
        quay.send(LIFT, 1, 0, 2);
        Check.same("deliver(2) of another LIFT of the box", quay.deliver(2), QuayMesh.ACKNOWLEDGED);
        Check.same("moves(), for that no move was made", quay.moves(), 0);
        quay.silence(0, true);
        quay.giveAway(0, 1);
        Check.same("deliver(1)", quay.deliver(1), QuayMesh.ACKNOWLEDGED);
        Check.same("moves(), acknowledged by another crane", quay.moves(), 1);
        Check.same("moveAt(0)", quay.moveAt(0), lift);
        quay.repeat(1);
        Check.same("deliver(1)", quay.deliver(1), QuayMesh.ACKNOWLEDGED);
        Check.same("moves(), acknowledged twice", quay.moves(), 1);
    }

    private static void termsMoves() {
        Document.terms("(A move is to lift a box to the apron, to put it into a stack, or to let it leave.)");
        QuayMesh quay = Yard.withBoxes(1);
        quay.park(0, 3);
        Check.same("moves(), a crane parked", quay.moves(), 0);
        Yard.lift(quay, 0, 0);
        Check.same("moves(), lifted", quay.moves(), 1);
        quay.send(CARRY, 0, 0, 4);
        quay.deliver(4);
        quay.act(4);
        Check.same("moves() and unheard(), taken", quay.moves() + quay.unheard(), 1);
        quay.act(4);
        Check.same("moves(), put down", quay.moves(), 2);
        quay.book(0, 0, 0);
        Yard.fetch(quay, 0, 0, 4);
        Check.same("moves(), left", quay.moves(), 3);
        Check.same("unheard()", quay.unheard(), 0);
    }

    // ---- queues

    private static void termsWhatIsInTheQueueStillGoesToItsEnd() {
        Document.terms("A message that was handed over (or lost, or handed to a silent worker), and is in the queue still, goes to the end of the queue.");
        QuayMesh quay = fourLifts();
        quay.lose(0, 1, false);
        Check.same("deliver(0)", quay.deliver(0), QuayMesh.LOST);
        Check.same("the queue, 0 lost", queueOf(quay, 0), 1230);
        quay.silence(0, true);
        Check.same("deliver(0)", quay.deliver(0), QuayMesh.SILENT);
        Check.same("the queue, 1 handed to a silent one", queueOf(quay, 0), 2301);
        quay.silence(0, false);
        quay.lose(0, 1, true);
        Check.same("deliver(0)", quay.deliver(0), QuayMesh.UNHEARD);
        Check.same("the queue, 2 unheard", queueOf(quay, 0), 3012);
        quay.park(0, 2);
        quay.park(1, 4);
        Check.same("deliver(0)", quay.deliver(0), QuayMesh.NOT_YET);
        Check.same("the queue, 3 not done yet", queueOf(quay, 0), 123);
        Check.same("queue(0)", quay.queue(0), 4);
        Check.same("deliver(0)", quay.deliver(0), QuayMesh.ACKNOWLEDGED);
        Check.same("the queue, 0 acknowledged", queueOf(quay, 0), 123);
        Check.same("queue(0)", quay.queue(0), 3);
    }

    private static void termsWhatIsSeenGoesToTheEnd() {
        QuayMesh quay = Yard.withBoxesOnApron(1);
        for (int i = 0; i < 3; i++) {
            quay.send(CARRY, 0, i, 4);
        }
        Check.same("deliver(4)", quay.deliver(4), QuayMesh.SEEN);
        Check.same("the queue", queueOf(quay, 4), 231);
        quay.act(4);
        Check.same("the queue, by an act", queueOf(quay, 4), 231);
        QuayMesh alone = Yard.withBoxes(1);
        alone.send(CARRY, 0, 0, 4);
        alone.deliver(4);
        Check.same("queue(4) of one", alone.queue(4), 1);
    }

    private static void termsAnActLeavesTheOthersInTheirOrder() {
        Document.terms("When a truck acknowledges by an act, the message leaves the queue from where it is");
        QuayMesh quay = threeSeenInTheMiddle();
        quay.act(4);
        Check.same("act(4)", quay.act(4), QuayMesh.ACKNOWLEDGED);
        Check.same("the queue", queueOf(quay, 4), 45);
        Check.same("queue(4)", quay.queue(4), 2);
    }

    private static void termsAnUnheardActLeavesTheMessageWhereItIs() {
        Document.terms("or stays there.");
        QuayMesh quay = threeSeenInTheMiddle();
        quay.lose(4, 1, true);
        quay.act(4);
        Check.same("act(4)", quay.act(4), QuayMesh.UNHEARD);
        Check.same("the queue", queueOf(quay, 4), 435);
    }

    /** The queue of truck 4 is 4, 3, 5; it has seen 3. */
    private static QuayMesh threeSeenInTheMiddle() {
        QuayMesh quay = Yard.withBoxesOnApron(3);
        quay.send(CARRY, 0, 0, 4);
        quay.send(CARRY, 1, 0, 4);
        quay.deliver(4);
        quay.send(CARRY, 2, 0, 4);
        Check.same("the queue", queueOf(quay, 4), 435);
        Check.same("seen(4)", quay.seen(4), 3);
        return quay;
    }

    // ---- silence

    private static void termsACraneGoesSilentAndSpeaksAgain() {
        Document.terms("A crane can go silent, and speak again.");
        QuayMesh quay = fourLifts();
        for (int i = 0; i < 3; i++) {
            quay.silence(0, true);
            Check.same("deliver(0)", quay.deliver(0), QuayMesh.SILENT);
            quay.silence(0, false);
            Check.same("deliver(0)", quay.deliver(0), QuayMesh.ACKNOWLEDGED);
        }
    }

    private static void termsOfASilentCraneAllMessagesAreGiven() {
        Document.terms("Of a silent crane all messages that are in its queue can be given away to another crane, silent or not:");
        QuayMesh quay = fourLifts();
        Check.noState("giveAway(0, 1), speaking", quay, () -> quay.giveAway(0, 1));
        quay.silence(0, true);
        Check.noState("giveAway(0, 0)", quay, () -> quay.giveAway(0, 0));
        Check.same("giveAway(0, 1), to one that speaks", quay.giveAway(0, 1), 4);
        Check.same("queue(0)", quay.queue(0), 0);
        quay.silence(1, true);
        quay.silence(2, true);
        Check.same("giveAway(1, 2), to a silent one", quay.giveAway(1, 2), 4);
        Check.same("queue(1)", quay.queue(1), 0);
        Check.same("queue(2)", quay.queue(2), 4);
        Check.same("giveAway(2, 0), to the one that had them first", quay.giveAway(2, 0), 4);
        Check.same("the queue", queueOf(quay, 0), 123);
    }

    private static void termsGivenOnesComeToTheEndInTheirOrder() {
        Document.terms("they come to the end of the queue of that, in their order.");
        QuayMesh quay = fourLifts();
        quay.send(LIFT, 6, 0, 3);
        quay.send(LIFT, 7, 0, 3);
        quay.silence(0, true);
        quay.deliver(0);
        Check.same("the queue", queueOf(quay, 0), 1230);
        quay.giveAway(0, 3);
        Check.same("the other one's queue", queueOf(quay, 3), 451230);
        quay.send(LIFT, 5, 0, 0);
        quay.giveAway(0, 3);
        Check.same("the other one's queue", queueOf(quay, 3), 4512306);
    }

    /** Crane 1 has nothing to do for it, and so makes no move; what it has acknowledged is not what crane 0 has done. */
    private static void termsWhatTheSilentOneRemembersIsNotKnown() {
        Document.terms("What the silent one remembers is not known to the other one.");
        QuayMesh quay = fourLifts();
        quay.lose(0, 1, true);
        quay.deliver(0);
        quay.silence(0, true);
        quay.giveAway(0, 1);
        quay.park(2, 9);
        Check.same("deliver(1) of what nobody has done, in its reach", lastOfFour(quay), QuayMesh.ACKNOWLEDGED);
        Check.same("whereIs(1), lifted once", quay.whereIs(1), 101);
        Check.same("liftedBy(1)", quay.liftedBy(1), 0);
        Check.noState("repeat(0), which was heard of nothing", quay, () -> quay.repeat(0));
        Check.same("unheard()", quay.unheard(), 0);
    }

    /** Delivers the given four to crane 1: 1, 2 and 3, of the places 2, 3 and 4, and then 0, which crane 0 has done. */
    private static int lastOfFour(QuayMesh quay) {
        Check.same("the queue of crane 1", queueOf(quay, 1), 1230);
        for (int i = 0; i < 3; i++) {
            Check.same("deliver(1)", quay.deliver(1), QuayMesh.ACKNOWLEDGED);
            Check.same("liftedBy(" + (i + 2) + ")", quay.liftedBy(i + 2), 1);
        }
        return quay.deliver(1);
    }
}
