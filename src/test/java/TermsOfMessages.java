/** "Terms", from what a message is to what the three kinds of messages ask for. */
final class TermsOfMessages {
    private static final int LIFT = QuayMesh.LIFT;
    private static final int CARRY = QuayMesh.CARRY;
    private static final int FETCH = QuayMesh.FETCH;
    private static final int NONE = QuayMesh.NONE;

    private TermsOfMessages() {
    }

    private static void termsMessagesFrom0() {
        Document.terms("Messages are numbered from 0");
        QuayMesh quay = Yard.withBoxes(1);
        Check.same("the first message", quay.send(FETCH, 0, 1, 7), 0);
        Check.same("the second message", quay.send(LIFT, 0, 0, 0), 1);
        Check.noIndex("handed(-1)", quay, () -> quay.handed(-1));
    }

    private static void termsEightyMessages() {
        Document.terms("there can be 80.");
        QuayMesh quay = Yard.withBoxes(1);
        for (int message = 0; message < 80; message++) {
            Check.same("a message", quay.send(CARRY, 0, 0, NONE), message);
        }
        Check.same("handed(79)", quay.handed(79), 0);
        Check.noState("the eighty-first", quay, () -> quay.send(CARRY, 0, 0, NONE));
        Check.noIndex("handed(80)", quay, () -> quay.handed(80));
    }

    /** It stays through a loss, a silence, a delivery that cannot be done and an unheard one, and leaves only then. */
    private static void termsAMessageIsInAQueueUntilItIsAcknowledged() {
        Document.terms("A message is of a kind, names a box and a target, and is in the queue of a worker until it is acknowledged.");
        QuayMesh quay = Yard.withBoxes(6);
        quay.send(LIFT, 5, 0, 0);
        quay.lose(0, 1, false);
        quay.deliver(0);
        Check.same("queue(0), lost", quay.queue(0), 1);
        quay.silence(0, true);
        quay.deliver(0);
        Check.same("queue(0), silent", quay.queue(0), 1);
        quay.silence(0, false);
        quay.deliver(0);
        Check.same("queue(0), not done yet", quay.queue(0), 1);
        quay.park(1, 9);
        quay.lose(0, 1, true);
        quay.deliver(0);
        Check.same("queue(0), unheard", quay.queue(0), 1);
        quay.deliver(0);
        Check.same("queue(0), acknowledged", quay.queue(0), 0);
    }

    // ---- LIFT

    private static void termsLift() {
        Document.terms("LIFT, to a crane: the box is to be lifted from its ship to the apron at its place.");
        for (int place = 0; place < 16; place += 5) {
            QuayMesh quay = Yard.withBoxes(16);
            Yard.lift(quay, place, place / 5);
            Check.same("whereIs(" + place + ")", quay.whereIs(place), 100 + place);
        }
    }

    /** Wherever the box has gone from its ship; the crane stays where it is, and no move is made. */
    private static void termsLiftNothingToDo() {
        Document.terms("If the box is on no ship any more, there is nothing to do.");
        QuayMesh quay = Yard.withBoxesOnApron(1);
        quay.park(0, 9);
        nothingToLift(quay, "on the apron");
        quay.send(CARRY, 0, 0, 4);
        quay.deliver(4);
        quay.act(4);
        nothingToLift(quay, "on a truck");
        quay.act(4);
        nothingToLift(quay, "in a stack");
        quay.book(0, 0, 0);
        Yard.fetch(quay, 0, 0, 4);
        nothingToLift(quay, "gone");
    }

    private static void nothingToLift(QuayMesh quay, String where) {
        int place = quay.whereIs(0);
        int moves = quay.moves();
        int message = quay.send(LIFT, 0, 0, 0);
        Check.same("deliver(0), the box " + where, quay.deliver(0), QuayMesh.ACKNOWLEDGED);
        Check.same("queue(0), the box " + where, quay.queue(0), 0);
        Check.same("placeOf(0), the box " + where, quay.placeOf(0), 9);
        Check.same("whereIs(0), the box " + where, quay.whereIs(0), place);
        Check.same("moves(), the box " + where, quay.moves(), moves);
        Check.same("isDone, the box " + where, quay.isDone(message), false);
    }

    /** The place of the lower crane, the one above it, the one below the higher crane, and that of the higher crane. */
    private static void termsLiftWhereTheCraneCanGo() {
        Document.terms("Otherwise it can be done if the crane can go to that place");
        for (int place = 0; place < 16; place++) {
            for (int crane = 0; crane < 4; crane++) {
                QuayMesh quay = Yard.withBoxes(16);
                boolean canGo = (crane == 0 || place > 5 * crane - 5) && (crane == 3 || place < 5 * crane + 5);
                quay.send(LIFT, place, 0, crane);
                int due = canGo ? QuayMesh.ACKNOWLEDGED : QuayMesh.NOT_YET;
                Check.same("LIFT at " + place + " by " + crane, quay.deliver(crane), due);
                Check.same("placeOf(" + crane + ")", quay.placeOf(crane), canGo ? place : 5 * crane);
                Check.same("whereIs(" + place + ")", quay.whereIs(place), canGo ? 100 + place : place);
            }
        }
    }

    private static void termsLiftWhereTheCraneStands() {
        Document.terms("(or stands there)");
        for (int crane = 0; crane < 4; crane++) {
            QuayMesh quay = Yard.withBoxes(16);
            quay.send(LIFT, 5 * crane, 0, crane);
            Check.same("deliver(" + crane + ")", quay.deliver(crane), QuayMesh.ACKNOWLEDGED);
            Check.same("placeOf(" + crane + ")", quay.placeOf(crane), 5 * crane);
        }
        QuayMesh between = Yard.withBoxes(16);
        between.park(0, 4);
        between.park(2, 6);
        between.send(LIFT, 5, 0, 1);
        Check.same("deliver(1), others right beside it", between.deliver(1), QuayMesh.ACKNOWLEDGED);
    }

    private static void termsLiftWhereTheApronHasNoBox() {
        Document.terms("and the apron has no box there");
        QuayMesh quay = Yard.withBoxesOnApron(3);
        quay.box(0, 1);
        quay.send(LIFT, 3, 0, 0);
        Check.same("deliver(0), a box there", quay.deliver(0), QuayMesh.NOT_YET);
        Check.same("placeOf(0), which has not gone", quay.placeOf(0), 2);
        Yard.carry(quay, 0, 0, 4);
        Yard.carry(quay, 2, 0, 4);
        Check.same("deliver(0), a box there still, those beside it gone", quay.deliver(0), QuayMesh.NOT_YET);
        quay.send(CARRY, 1, 0, 4);
        quay.deliver(4);
        quay.act(4);
        Check.same("deliver(0), that box on a truck", quay.deliver(0), QuayMesh.ACKNOWLEDGED);
        Check.same("whereIs(3)", quay.whereIs(3), 101);
    }

    private static void termsLiftTheCraneStandsThere() {
        Document.terms("the crane stands there then.");
        QuayMesh quay = Yard.withBoxes(16);
        Yard.lift(quay, 4, 0);
        Check.same("placeOf(0)", quay.placeOf(0), 4);
        Check.noState("park(1, 4), where it stands", quay, () -> quay.park(1, 4));
        Yard.lift(quay, 1, 0);
        Check.same("placeOf(0)", quay.placeOf(0), 1);
        Check.same("park(1, 2), where it does not stand any more", quay.park(1, 2), 5);
    }

    // ---- CARRY

    private static void termsCarry() {
        Document.terms("CARRY, to a truck: the box is to be brought to a stack, the target.");
        QuayMesh quay = Yard.withBoxesOnApron(6);
        for (int stack = 0; stack < 6; stack++) {
            Yard.carry(quay, stack, stack, 4 + stack % 4);
            Check.same("whereIs(" + stack + ")", quay.whereIs(stack), 300 + 10 * stack);
        }
    }

    /** In that stack at any level, or gone; also of a truck that has another box. */
    private static void termsCarryNothingToDo() {
        Document.terms("If the box is in that stack, or gone, there is nothing to do.");
        QuayMesh quay = Yard.withBoxesInStack(4);
        quay.book(0, 0, 3);
        for (int box = 0; box < 4; box++) {
            quay.send(CARRY, box, 0, 5);
            quay.deliver(5);
            Check.same("act(5) of the box at level " + box, quay.act(5), QuayMesh.ACKNOWLEDGED);
            Check.same("whereIs(" + box + ")", quay.whereIs(box), 300 + box);
        }
        Check.same("moves()", quay.moves(), 8);
        quay.send(CARRY, 2, 0, 6);
        quay.send(FETCH, 3, 0, 6);
        quay.deliver(6);
        quay.deliver(6);
        Check.same("act(6) of the uppermost one", quay.act(6), QuayMesh.TAKEN);
        quay.deliver(6);
        Check.same("act(6) of the one in its stack, another on the truck", quay.act(6), QuayMesh.ACKNOWLEDGED);
        quay.deliver(6);
        quay.act(6);
        quay.send(CARRY, 3, 0, 7);
        quay.deliver(7);
        Check.same("act(7) of the one that is gone", quay.act(7), QuayMesh.ACKNOWLEDGED);
        Check.same("whereIs(3)", quay.whereIs(3), 400);
    }

    private static void termsCarryTakesFromTheApron() {
        Document.terms("If it is on the apron");
        QuayMesh quay = Yard.withBoxesOnApron(12);
        quay.box(0, 0);
        quay.send(CARRY, 12, 0, 5);
        quay.deliver(5);
        Check.same("act(5), on its ship", quay.act(5), QuayMesh.NOT_YET);
        for (int box = 0; box < 12; box++) {
            Yard.carry(quay, box, box / 4, 4);
        }
        Yard.lift(quay, 12, 0);
        Check.same("act(5), on the apron", quay.act(5), QuayMesh.TAKEN);
    }

    private static void termsCarryTakesTheUppermost() {
        Document.terms("or the uppermost one of another stack");
        QuayMesh quay = Yard.withBoxesInStack(4);
        for (int box = 0; box < 4; box++) {
            quay.send(CARRY, box, 1, 4 + box);
            quay.deliver(4 + box);
        }
        Check.same("act(6), one above", quay.act(6), QuayMesh.NOT_YET);
        Check.same("act(4), three above", quay.act(4), QuayMesh.NOT_YET);
        Check.same("act(7), the uppermost", quay.act(7), QuayMesh.TAKEN);
        Check.same("height(0)", quay.height(0), 3);
        Check.same("act(6), the uppermost now", quay.act(6), QuayMesh.TAKEN);
        Check.same("act(5), the uppermost now", quay.act(5), QuayMesh.TAKEN);
        Check.same("act(4), the only one", quay.act(4), QuayMesh.TAKEN);
        Check.same("height(0)", quay.height(0), 0);
    }

    private static void termsCarryTakesWithAnEmptyTruck() {
        Document.terms("and the truck is empty, the truck takes it");
        QuayMesh quay = Yard.withBoxesOnApron(2);
        quay.send(CARRY, 0, 0, 4);
        quay.send(CARRY, 1, 0, 4);
        quay.deliver(4);
        quay.act(4);
        quay.deliver(4);
        Check.same("act(4), another box on it", quay.act(4), QuayMesh.NOT_YET);
        Check.same("seen(4), still", quay.seen(4), 3);
        quay.send(CARRY, 1, 0, 5);
        quay.deliver(5);
        Check.same("act(5), a box on another truck", quay.act(5), QuayMesh.TAKEN);
        Check.same("whereIs(1)", quay.whereIs(1), 205);
    }

    /** A box on another truck is neither on the apron nor in a stack. */
    private static void termsCarryDoesNotTakeFromATruck() {
        QuayMesh quay = Yard.withBoxesOnApron(1);
        quay.send(CARRY, 0, 0, 4);
        quay.deliver(4);
        quay.act(4);
        quay.send(CARRY, 0, 0, 5);
        quay.deliver(5);
        Check.same("act(5)", quay.act(5), QuayMesh.NOT_YET);
        Check.same("whereIs(0)", quay.whereIs(0), 204);
        Check.same("act(4)", quay.act(4), QuayMesh.ACKNOWLEDGED);
        Check.same("act(5), nothing to do", quay.act(5), QuayMesh.ACKNOWLEDGED);
    }

    private static void termsCarryPutsWhereThereIsRoom() {
        Document.terms("if the truck has it, and the stack has room, it puts it there, and the message is done.");
        QuayMesh quay = Yard.withFullStacks();
        quay.send(CARRY, 23, 0, 4);
        quay.deliver(4);
        Check.same("act(4), which takes it", quay.act(4), QuayMesh.TAKEN);
        Check.same("act(4), no room", quay.act(4), QuayMesh.NOT_YET);
        Check.same("whereIs(23)", quay.whereIs(23), 204);
        Check.same("isDone(48)", quay.isDone(48), false);
        Yard.carry(quay, 3, 5, 5);
        Check.same("act(4), room for one", quay.act(4), QuayMesh.ACKNOWLEDGED);
        Check.same("whereIs(23)", quay.whereIs(23), 303);
        Check.same("isDone(48)", quay.isDone(48), true);
    }

    // ---- FETCH

    private static void termsFetch() {
        Document.terms("FETCH, to a truck: the box is to be brought to a gate, the target.");
        QuayMesh quay = Yard.withABoxInEach(2);
        for (int gate = 0; gate < 2; gate++) {
            quay.book(gate, 0, gate);
            Yard.fetch(quay, gate, gate, 7);
            Check.same("whereIs(" + gate + ")", quay.whereIs(gate), 400 + gate);
        }
    }

    private static void termsFetchNothingToDo() {
        Document.terms("If the box is gone, there is nothing to do.");
        QuayMesh quay = Yard.withABoxInEach(2);
        quay.book(0, 0, 0);
        Yard.fetch(quay, 0, 0, 4);
        int moves = quay.moves();
        for (int gate = 0; gate < 2; gate++) {
            int message = quay.send(FETCH, 0, gate, 5);
            quay.deliver(5);
            Check.same("act(5) to gate " + gate, quay.act(5), QuayMesh.ACKNOWLEDGED);
            Check.same("isDone", quay.isDone(message), false);
            Check.same("whereIs(0)", quay.whereIs(0), 400);
        }
        Check.same("moves()", quay.moves(), moves);
    }

    /** Also a full truck has nothing to do with what is gone. */
    private static void termsFetchNothingToDoWithABoxOnTheTruck() {
        QuayMesh quay = Yard.withABoxInEach(2);
        quay.book(0, 0, 0);
        Yard.fetch(quay, 0, 0, 4);
        quay.send(CARRY, 1, 5, 4);
        quay.deliver(4);
        quay.act(4);
        quay.send(FETCH, 0, 0, 4);
        quay.deliver(4);
        quay.deliver(4);
        Check.same("act(4) of the box that is gone", quay.act(4), QuayMesh.ACKNOWLEDGED);
        Check.same("whereIs(1)", quay.whereIs(1), 204);
    }

    private static void termsFetchTakesFromAnyStack() {
        Document.terms("The truck takes it as for CARRY, from any stack");
        for (int stack = 0; stack < 6; stack++) {
            for (int gate = 0; gate < 2; gate++) {
                QuayMesh quay = Yard.withABoxInEach(6);
                quay.send(FETCH, stack, gate, 4);
                quay.deliver(4);
                Check.same("act(4) from stack " + stack + " to gate " + gate, quay.act(4), QuayMesh.TAKEN);
                Check.same("whereIs(" + stack + ")", quay.whereIs(stack), 204);
            }
        }
    }

    private static void termsFetchTakesAsForCarry() {
        QuayMesh quay = Yard.withBoxesInStack(2);
        quay.box(0, 7);
        quay.send(FETCH, 2, 0, 4);
        quay.deliver(4);
        Check.same("act(4), on its ship", quay.act(4), QuayMesh.NOT_YET);
        Yard.lift(quay, 2, 0);
        Check.same("act(4), on the apron", quay.act(4), QuayMesh.TAKEN);
        quay.send(FETCH, 0, 0, 5);
        quay.deliver(5);
        Check.same("act(5), one above", quay.act(5), QuayMesh.NOT_YET);
        quay.send(FETCH, 1, 0, 4);
        quay.deliver(4);
        quay.deliver(4);
        Check.same("act(4), another box on it", quay.act(4), QuayMesh.NOT_YET);
        quay.send(FETCH, 2, 0, 6);
        quay.deliver(6);
        Check.same("act(6), on another truck", quay.act(6), QuayMesh.NOT_YET);
    }

    private static void termsFetchLeavesInItsHour() {
        Document.terms("if the truck has it, and the box is booked at this gate for the hour of now, it leaves there");
        QuayMesh quay = onTruckFor(1, 2);
        Check.same("act(4), two hours before", quay.act(4), QuayMesh.NOT_YET);
        quay.advance(1);
        Check.same("act(4), the hour before", quay.act(4), QuayMesh.NOT_YET);
        quay.advance(1);
        Check.same("act(4), in its hour", quay.act(4), QuayMesh.ACKNOWLEDGED);
        Check.same("whereIs(0)", quay.whereIs(0), 401);
        QuayMesh late = onTruckFor(1, 2);
        late.advance(3);
        Check.same("act(4), the hour after", late.act(4), QuayMesh.NOT_YET);
        Check.same("whereIs(0)", late.whereIs(0), 204);
    }

    private static void termsFetchLeavesByItsGate() {
        for (int gate = 0; gate < 2; gate++) {
            QuayMesh quay = onTruckFor(gate, 0);
            Check.same("act(4), booked at " + gate, quay.act(4), gate == 1 ? QuayMesh.ACKNOWLEDGED : QuayMesh.NOT_YET);
            Check.same("whereIs(0)", quay.whereIs(0), gate == 1 ? 401 : 204);
        }
        QuayMesh unbooked = onTruckFor(1, 0);
        unbooked.unbook(0);
        Check.same("act(4), unbooked", unbooked.act(4), QuayMesh.NOT_YET);
    }

    /** Box 0 is on truck 4, which has seen a FETCH of it to gate 1; it is booked at the gate for the hour. */
    private static QuayMesh onTruckFor(int gate, int hour) {
        QuayMesh quay = Yard.withBoxesInStack(1);
        quay.book(gate, hour, 0);
        quay.send(FETCH, 0, 1, 4);
        quay.deliver(4);
        Check.same("act(4)", quay.act(4), QuayMesh.TAKEN);
        return quay;
    }

    private static void termsFetchedIsNotBooked() {
        Document.terms("is not booked any more, and the message is done.");
        QuayMesh quay = onTruckFor(1, 0);
        Check.same("bookedFor(0), on the truck", quay.bookedFor(0), 0);
        Check.same("isDone(2), on the truck", quay.isDone(2), false);
        quay.act(4);
        Check.same("bookedFor(0)", quay.bookedFor(0), NONE);
        Check.same("isDone(2)", quay.isDone(2), true);
        Check.same("seen(4)", quay.seen(4), NONE);
        Check.noState("unbook(0)", quay, () -> quay.unbook(0));
        Check.same("advance(1), none missed", quay.advance(1), 0);
    }
}
