/** Promise 7: trucks act on the message that they saw last. */
public final class TrucksTest {
    private static final int CARRY = QuayMesh.CARRY;
    private static final int FETCH = QuayMesh.FETCH;
    private static final int NONE = QuayMesh.NONE;

    private TrucksTest() {
    }

    public static void main(String[] args) {
        carryFromApron();
        carryFromStack();
        carryWithoutRoom();
        carryNothingToDo();
        carryNotYet();
        fetch();
        fetchFromApronAndUnderOthers();
        fetchGoneBox();
        fetchFromItsOwnStack();
        lastSeenCounts();
        takenForOneMessageAndBroughtByAnother();
        unheardAct();
        rememberedNothingToDo();
        doneMessageKeepsWhatIsSeen();
        actLeavesQueueInOrder();
        Check.end();
    }

    private static void carryFromApron() {
        QuayMesh quay = Yard.withBoxesOnApron(1);
        int carry = quay.send(CARRY, 0, 5, 7);
        Check.same("act(7) before it has seen any", quay.act(7), QuayMesh.EMPTY);
        quay.deliver(7);
        Check.same("act(7)", quay.act(7), QuayMesh.TAKEN);
        Check.same("whereIs(0)", quay.whereIs(0), 207);
        Check.same("seen(7)", quay.seen(7), carry);
        Check.same("isDone", quay.isDone(carry), false);
        Check.same("act(7)", quay.act(7), QuayMesh.ACKNOWLEDGED);
        Check.same("whereIs(0)", quay.whereIs(0), 350);
        Check.same("seen(7)", quay.seen(7), NONE);
        Check.same("queue(7)", quay.queue(7), 0);
        Check.same("isDone", quay.isDone(carry), true);
        Check.same("act(7) again", quay.act(7), QuayMesh.EMPTY);
    }

    private static void carryFromStack() {
        QuayMesh quay = Yard.withBoxesInStack(3);
        Check.same("whereIs(2)", quay.whereIs(2), 302);
        quay.send(CARRY, 1, 4, 5);
        quay.deliver(5);
        Check.same("act(5) of a box under another", quay.act(5), QuayMesh.NOT_YET);
        Yard.carry(quay, 2, 4, 6);
        Check.same("whereIs(2)", quay.whereIs(2), 340);
        Check.same("act(5) of the uppermost one", quay.act(5), QuayMesh.TAKEN);
        Check.same("height(0)", quay.height(0), 1);
        Check.same("act(5)", quay.act(5), QuayMesh.ACKNOWLEDGED);
        Check.same("whereIs(1)", quay.whereIs(1), 341);
        Check.same("whereIs(0)", quay.whereIs(0), 300);
    }

    private static void carryWithoutRoom() {
        QuayMesh quay = Yard.withBoxesOnApron(5);
        for (int box = 0; box < 4; box++) {
            Yard.carry(quay, box, 2, 4);
        }
        Check.same("height(2)", quay.height(2), 4);
        quay.send(CARRY, 4, 2, 5);
        quay.deliver(5);
        Check.same("act(5), which takes it all the same", quay.act(5), QuayMesh.TAKEN);
        Check.same("act(5) without room", quay.act(5), QuayMesh.NOT_YET);
        Check.same("whereIs(4)", quay.whereIs(4), 205);
        Yard.carry(quay, 3, 1, 4);
        Check.same("act(5) with room", quay.act(5), QuayMesh.ACKNOWLEDGED);
        Check.same("whereIs(4)", quay.whereIs(4), 323);
    }

    private static void carryNothingToDo() {
        QuayMesh quay = Yard.withBoxesInStack(2);
        int moves = quay.moves();
        int there = quay.send(CARRY, 0, 0, 5);
        quay.deliver(5);
        Check.same("act(5) of a box that is there, under another", quay.act(5), QuayMesh.ACKNOWLEDGED);
        Check.same("isDone of it", quay.isDone(there), false);
        Check.same("seen(5)", quay.seen(5), NONE);
        Check.same("queue(5)", quay.queue(5), 0);
        Check.same("moves()", quay.moves(), moves);
        quay.book(0, 0, 1);
        Yard.fetch(quay, 1, 0, 4);
        quay.send(CARRY, 1, 3, 6);
        quay.deliver(6);
        Check.same("act(6) of a box that is gone", quay.act(6), QuayMesh.ACKNOWLEDGED);
        Check.same("whereIs(1)", quay.whereIs(1), 400);
    }

    private static void carryNotYet() {
        QuayMesh quay = Yard.withBoxesOnApron(2);
        int onShip = quay.box(0, 7);
        quay.send(CARRY, onShip, 0, 4);
        quay.deliver(4);
        Check.same("act(4) of a box on its ship", quay.act(4), QuayMesh.NOT_YET);
        Check.same("seen(4), still", quay.seen(4), 2);
        quay.send(CARRY, 0, 0, 5);
        quay.deliver(5);
        quay.act(5);
        quay.send(CARRY, 0, 1, 6);
        quay.deliver(6);
        Check.same("act(6) of a box on another truck", quay.act(6), QuayMesh.NOT_YET);
        quay.send(CARRY, 1, 1, 5);
        quay.deliver(5);
        Check.same("seen(5), the first one again", quay.seen(5), 3);
        quay.deliver(5);
        Check.same("seen(5), the other one", quay.seen(5), 5);
        Check.same("act(5), another box on it", quay.act(5), QuayMesh.NOT_YET);
        Check.same("whereIs(1)", quay.whereIs(1), 101);
        Yard.lift(quay, onShip, 0);
        Check.same("act(4) of the box once it is lifted", quay.act(4), QuayMesh.TAKEN);
    }

    private static void fetch() {
        QuayMesh quay = Yard.withBoxesInStack(3);
        quay.book(1, 1, 2);
        int fetch = quay.send(FETCH, 2, 1, 6);
        quay.deliver(6);
        Check.same("act(6)", quay.act(6), QuayMesh.TAKEN);
        Check.same("act(6) before the hour", quay.act(6), QuayMesh.NOT_YET);
        quay.advance(1);
        int other = quay.send(FETCH, 2, 0, 6);
        quay.deliver(6);
        quay.deliver(6);
        Check.same("seen(6)", quay.seen(6), other);
        Check.same("act(6) at the other gate", quay.act(6), QuayMesh.NOT_YET);
        quay.deliver(6);
        Check.same("act(6) at its gate and hour", quay.act(6), QuayMesh.ACKNOWLEDGED);
        Check.same("whereIs(2)", quay.whereIs(2), 401);
        Check.same("bookedFor(2)", quay.bookedFor(2), NONE);
        Check.same("isDone", quay.isDone(fetch), true);
        Check.same("queue(6)", quay.queue(6), 1);
    }

    private static void fetchFromApronAndUnderOthers() {
        QuayMesh quay = Yard.withBoxesInStack(2);
        int third = quay.box(0, 6);
        Yard.lift(quay, third, 0);
        quay.send(FETCH, 0, 0, 5);
        quay.deliver(5);
        Check.same("act(5) of a box under another", quay.act(5), QuayMesh.NOT_YET);
        quay.send(FETCH, third, 1, 6);
        quay.deliver(6);
        Check.same("act(6) of a box on the apron", quay.act(6), QuayMesh.TAKEN);
        Check.same("act(6) of a box not booked", quay.act(6), QuayMesh.NOT_YET);
        Check.same("whereIs of it", quay.whereIs(third), 206);
    }

    private static void fetchGoneBox() {
        QuayMesh quay = Yard.withBoxesInStack(1);
        quay.book(0, 0, 0);
        Yard.fetch(quay, 0, 0, 4);
        int again = quay.send(FETCH, 0, 1, 5);
        quay.deliver(5);
        Check.same("act(5) of a box that is gone", quay.act(5), QuayMesh.ACKNOWLEDGED);
        Check.same("isDone", quay.isDone(again), false);
        Check.same("whereIs(0)", quay.whereIs(0), 400);
    }

    /** The target of a FETCH is a gate: that the stack of its number has the box says nothing. */
    private static void fetchFromItsOwnStack() {
        QuayMesh quay = Yard.withBoxesInStack(1);
        quay.book(0, 0, 0);
        quay.send(FETCH, 0, 0, 7);
        quay.deliver(7);
        Check.same("act(7)", quay.act(7), QuayMesh.TAKEN);
        Check.same("act(7)", quay.act(7), QuayMesh.ACKNOWLEDGED);
    }

    private static void lastSeenCounts() {
        QuayMesh quay = Yard.withBoxesOnApron(2);
        int first = quay.send(CARRY, 0, 0, 4);
        int second = quay.send(CARRY, 1, 0, 4);
        quay.deliver(4);
        quay.deliver(4);
        Check.same("act(4), of the second one", quay.act(4), QuayMesh.TAKEN);
        Check.same("whereIs(1)", quay.whereIs(1), 204);
        Check.same("act(4)", quay.act(4), QuayMesh.ACKNOWLEDGED);
        Check.same("act(4), the first one forgotten", quay.act(4), QuayMesh.EMPTY);
        Check.same("queued(4, 0)", quay.queued(4, 0), first);
        Check.same("isDone of the second one", quay.isDone(second), true);
    }

    private static void takenForOneMessageAndBroughtByAnother() {
        QuayMesh quay = Yard.withBoxesOnApron(1);
        int first = quay.send(CARRY, 0, 1, 4);
        quay.deliver(4);
        quay.act(4);
        int second = quay.send(CARRY, 0, 2, 4);
        quay.deliver(4);
        quay.deliver(4);
        Check.same("seen(4)", quay.seen(4), second);
        Check.same("act(4), which has the box", quay.act(4), QuayMesh.ACKNOWLEDGED);
        Check.same("whereIs(0)", quay.whereIs(0), 320);
        Check.same("isDone of the first one", quay.isDone(first), false);
        Check.same("isDone of the second one", quay.isDone(second), true);
        quay.deliver(4);
        Check.same("act(4) of the first one", quay.act(4), QuayMesh.TAKEN);
        Check.same("act(4)", quay.act(4), QuayMesh.ACKNOWLEDGED);
        Check.same("whereIs(0)", quay.whereIs(0), 310);
    }

    private static void unheardAct() {
        QuayMesh quay = Yard.withBoxesOnApron(2);
        int carry = quay.send(CARRY, 0, 1, 4);
        quay.lose(4, 1, true);
        quay.deliver(4);
        int other = quay.send(CARRY, 1, 1, 4);
        Check.same("act(4), by which none is lost", quay.act(4), QuayMesh.TAKEN);
        Check.same("act(4)", quay.act(4), QuayMesh.UNHEARD);
        Check.same("seen(4)", quay.seen(4), NONE);
        Check.same("act(4), none seen", quay.act(4), QuayMesh.EMPTY);
        Check.same("queued(4, 0), which stays where it is", quay.queued(4, 0), carry);
        Check.same("queued(4, 1)", quay.queued(4, 1), other);
        Check.same("whereIs(0)", quay.whereIs(0), 310);
        Check.same("unheard()", quay.unheard(), 1);
        Yard.carry(quay, 0, 3, 5);
        Check.same("deliver(4) of what it remembers", quay.deliver(4), QuayMesh.ACKNOWLEDGED);
        Check.same("whereIs(0), which it takes no second time", quay.whereIs(0), 330);
        Check.same("unheard()", quay.unheard(), 0);
    }

    private static void rememberedNothingToDo() {
        QuayMesh quay = Yard.withBoxesInStack(1);
        int there = quay.send(CARRY, 0, 0, 5);
        quay.deliver(5);
        quay.lose(5, 1, true);
        Check.same("act(5)", quay.act(5), QuayMesh.UNHEARD);
        Yard.carry(quay, 0, 1, 6);
        Check.same("deliver(5) of what it remembers", quay.deliver(5), QuayMesh.ACKNOWLEDGED);
        Check.same("seen(5)", quay.seen(5), NONE);
        Check.same("repeat(5)", quay.repeat(5), there);
        Check.same("deliver(5) of the repeated one", quay.deliver(5), QuayMesh.ACKNOWLEDGED);
        Check.same("act(5)", quay.act(5), QuayMesh.EMPTY);
        Check.same("whereIs(0)", quay.whereIs(0), 310);
        Check.same("isDone", quay.isDone(there), false);
    }

    private static void doneMessageKeepsWhatIsSeen() {
        QuayMesh quay = Yard.withBoxesOnApron(2);
        Yard.carry(quay, 0, 0, 4);
        int other = quay.send(CARRY, 1, 0, 4);
        quay.deliver(4);
        quay.act(4);
        quay.repeat(4);
        quay.deliver(4);
        Check.same("deliver(4) of the one that is done", quay.deliver(4), QuayMesh.ACKNOWLEDGED);
        Check.same("seen(4), as before", quay.seen(4), other);
        Check.same("act(4)", quay.act(4), QuayMesh.ACKNOWLEDGED);
    }

    private static void actLeavesQueueInOrder() {
        QuayMesh quay = Yard.withBoxesOnApron(3);
        int first = quay.send(CARRY, 0, 0, 4);
        int second = quay.send(CARRY, 1, 0, 4);
        quay.deliver(4);
        quay.deliver(4);
        quay.deliver(4);
        int third = quay.send(CARRY, 2, 0, 4);
        quay.act(4);
        Check.same("queued(4, 1), the one seen, in the middle", quay.queued(4, 1), first);
        Check.same("act(4)", quay.act(4), QuayMesh.ACKNOWLEDGED);
        Check.same("queue(4)", quay.queue(4), 2);
        Check.same("queued(4, 0)", quay.queued(4, 0), second);
        Check.same("queued(4, 1)", quay.queued(4, 1), third);
    }
}
