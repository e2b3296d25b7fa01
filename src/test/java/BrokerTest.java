/** Promises 5, 6 and 8 to 12: the broker, and the cranes that it tells what to do. */
public final class BrokerTest {
    private static final int LIFT = QuayMesh.LIFT;
    private static final int CARRY = QuayMesh.CARRY;
    private static final int FETCH = QuayMesh.FETCH;
    private static final int NONE = QuayMesh.NONE;

    private BrokerTest() {
    }

    public static void main(String[] args) {
        promise5Send();
        promise5SendToTheLeastBusy();
        promise5SendToSilent();
        promise6DeliverLift();
        promise6DeliverNotYet();
        promise6DeliverNothingToDo();
        promise6DeliverLossBeforeSilence();
        promise6DeliverUnheard();
        promise6DeliverToTruck();
        promise8Lose();
        promise8LossesAreEachWorkersOwn();
        promise9Repeat();
        promise9RepeatGivenAway();
        promise10Silence();
        promise11GiveAway();
        promise12Park();
        Check.end();
    }

    private static void promise5Send() {
        QuayMesh quay = Yard.withBoxes(3);
        Check.same("send of a LIFT", quay.send(LIFT, 0, 0, 3), 0);
        Check.same("send of a CARRY", quay.send(CARRY, 0, 5, 7), 1);
        Check.same("send of a FETCH", quay.send(FETCH, 2, 1, 4), 2);
        Check.same("send of the same LIFT", quay.send(LIFT, 0, 0, 3), 3);
        Check.same("queue(3)", quay.queue(3), 2);
        Check.same("queued(3, 0)", quay.queued(3, 0), 0);
        Check.same("queued(3, 1)", quay.queued(3, 1), 3);
        Check.same("queue(7)", quay.queue(7), 1);
        Check.same("queue(4)", quay.queue(4), 1);
    }

    private static void promise5SendToTheLeastBusy() {
        QuayMesh quay = Yard.withBoxes(1);
        for (int i = 0; i < 4; i++) {
            quay.send(LIFT, 0, 0, NONE);
            Check.same("queue(" + i + ") after LIFT " + i, quay.queue(i), 1);
        }
        quay.send(LIFT, 0, 0, 0);
        quay.send(LIFT, 0, 0, 1);
        quay.send(LIFT, 0, 0, NONE);
        Check.same("queue(2), of the fewest the lowest", quay.queue(2), 2);
        quay.send(LIFT, 0, 0, NONE);
        Check.same("queue(3), of the fewest", quay.queue(3), 2);
        for (int i = 4; i < 8; i++) {
            quay.send(i % 2 == 0 ? CARRY : FETCH, 0, 1, NONE);
            Check.same("queue(" + i + ")", quay.queue(i), 1);
        }
        quay.send(FETCH, 0, 0, NONE);
        Check.same("queue(4) again", quay.queue(4), 2);
    }

    private static void promise5SendToSilent() {
        QuayMesh quay = Yard.withBoxes(1);
        quay.silence(0, true);
        quay.silence(2, true);
        quay.send(LIFT, 0, 0, 1);
        quay.send(LIFT, 0, 0, 3);
        quay.send(LIFT, 0, 0, NONE);
        Check.same("queue(0) of a silent one", quay.queue(0), 0);
        Check.same("queue(1), the lowest not silent", quay.queue(1), 2);
        quay.silence(1, true);
        quay.silence(3, true);
        Check.noState("send to NONE, all silent", quay, () -> quay.send(LIFT, 0, 0, NONE));
        Check.same("send to a silent one by its number", quay.send(LIFT, 0, 0, 2), 3);
        Check.same("send to a truck while all cranes are silent", quay.send(CARRY, 0, 0, NONE), 4);
        Check.same("queue(4)", quay.queue(4), 1);
    }

    private static void promise6DeliverLift() {
        QuayMesh quay = Yard.withBoxes(8);
        quay.send(LIFT, 3, 0, 0);
        Check.same("deliver(0)", quay.deliver(0), QuayMesh.ACKNOWLEDGED);
        Check.same("placeOf(0)", quay.placeOf(0), 3);
        Check.same("whereIs(3)", quay.whereIs(3), 103);
        Check.same("liftedBy(3)", quay.liftedBy(3), 0);
        Check.same("queue(0)", quay.queue(0), 0);
        Check.same("deliver(0) of nothing", quay.deliver(0), QuayMesh.EMPTY);
        quay.send(LIFT, 5, 0, 1);
        Check.same("deliver(1) where it stands", quay.deliver(1), QuayMesh.ACKNOWLEDGED);
        Check.same("placeOf(1)", quay.placeOf(1), 5);
        quay.send(LIFT, 4, 0, 1);
        Check.same("deliver(1), next to the lower crane", quay.deliver(1), QuayMesh.ACKNOWLEDGED);
        Check.same("placeOf(1)", quay.placeOf(1), 4);
    }

    private static void promise6DeliverNotYet() {
        QuayMesh quay = Yard.withBoxes(6);
        int onOther = quay.send(LIFT, 5, 0, 0);
        int inReach = quay.send(LIFT, 2, 0, 0);
        Check.same("deliver(0), where the next crane stands", quay.deliver(0), QuayMesh.NOT_YET);
        Check.same("placeOf(0), which has not gone", quay.placeOf(0), 0);
        Check.same("whereIs(5)", quay.whereIs(5), 5);
        Check.same("queued(0, 0), the other one", quay.queued(0, 0), inReach);
        Check.same("queued(0, 1), at the end", quay.queued(0, 1), onOther);
        Check.same("deliver(0) in reach", quay.deliver(0), QuayMesh.ACKNOWLEDGED);
        quay.park(1, 6);
        Check.same("deliver(0) once the other has gone", quay.deliver(0), QuayMesh.ACKNOWLEDGED);
        int below = quay.send(LIFT, 4, 0, 1);
        Check.same("deliver(1), below the lower crane", quay.deliver(1), QuayMesh.NOT_YET);
        int second = quay.box(0, 2);
        quay.send(LIFT, second, 0, 0);
        Check.same("deliver(0), the apron taken", quay.deliver(0), QuayMesh.NOT_YET);
        Check.same("placeOf(0), which has not gone", quay.placeOf(0), 5);
        Check.same("liftedBy of the second box", quay.liftedBy(second), NONE);
        Yard.carry(quay, 2, 0, 4);
        Check.same("deliver(0), the apron free", quay.deliver(0), QuayMesh.ACKNOWLEDGED);
        Check.same("whereIs of the second box", quay.whereIs(second), 102);
        Check.same("deliver(1), the lower crane gone", quay.deliver(1), QuayMesh.ACKNOWLEDGED);
        Check.same("isDone of it", quay.isDone(below), true);
    }

    private static void promise6DeliverNothingToDo() {
        QuayMesh quay = Yard.withBoxes(4);
        Yard.lift(quay, 3, 0);
        int again = quay.send(LIFT, 3, 0, 1);
        Check.same("deliver(1) of a lifted box", quay.deliver(1), QuayMesh.ACKNOWLEDGED);
        Check.same("placeOf(1)", quay.placeOf(1), 5);
        Check.same("liftedBy(3)", quay.liftedBy(3), 0);
        Check.same("isDone of it", quay.isDone(again), false);
        Check.same("moves()", quay.moves(), 1);
        Check.same("unheard()", quay.unheard(), 0);
        Check.same("queue(1)", quay.queue(1), 0);
    }

    private static void promise6DeliverLossBeforeSilence() {
        QuayMesh quay = Yard.withBoxes(4);
        quay.send(LIFT, 1, 0, 0);
        quay.send(LIFT, 2, 0, 0);
        quay.silence(0, true);
        quay.lose(0, 1, false);
        Check.same("deliver(0), lost and silent", quay.deliver(0), QuayMesh.LOST);
        Check.same("queued(0, 0) behind the lost one", quay.queued(0, 0), 1);
        Check.same("deliver(0), silent", quay.deliver(0), QuayMesh.SILENT);
        Check.same("queued(0, 0) behind the one not heard", quay.queued(0, 0), 0);
        Check.same("handed(0)", quay.handed(0), 1);
        Check.same("handed(1)", quay.handed(1), 1);
        Check.same("whereIs(1)", quay.whereIs(1), 1);
        quay.silence(0, false);
        Check.same("deliver(0), speaking again", quay.deliver(0), QuayMesh.ACKNOWLEDGED);
        Check.same("whereIs(1)", quay.whereIs(1), 101);
    }

    private static void promise6DeliverUnheard() {
        QuayMesh quay = Yard.withBoxes(4);
        quay.lose(0, 2, true);
        quay.send(LIFT, 1, 0, 0);
        quay.send(LIFT, 2, 0, 0);
        Check.same("deliver(0)", quay.deliver(0), QuayMesh.UNHEARD);
        Check.same("whereIs(1), lifted all the same", quay.whereIs(1), 101);
        Check.same("queued(0, 1), at the end", quay.queued(0, 1), 0);
        Check.same("moves()", quay.moves(), 0);
        Check.same("deliver(0) of the other", quay.deliver(0), QuayMesh.UNHEARD);
        quay.park(0, 0);
        Check.same("deliver(0) of what it remembers", quay.deliver(0), QuayMesh.ACKNOWLEDGED);
        Check.same("placeOf(0), which does it no second time", quay.placeOf(0), 0);
        Check.same("moveAt(0)", quay.moveAt(0), 0);
        Check.same("queue(0)", quay.queue(0), 1);
        quay.lose(0, 1, true);
        Check.same("deliver(0), lost again", quay.deliver(0), QuayMesh.UNHEARD);
        Check.same("queue(0)", quay.queue(0), 1);
    }

    private static void promise6DeliverToTruck() {
        QuayMesh quay = Yard.withBoxesOnApron(2);
        int first = quay.send(CARRY, 0, 1, 5);
        int second = quay.send(CARRY, 1, 1, 5);
        quay.lose(5, 1, false);
        Check.same("deliver(5), lost", quay.deliver(5), QuayMesh.LOST);
        Check.same("seen(5)", quay.seen(5), NONE);
        Check.same("queued(5, 1)", quay.queued(5, 1), first);
        Check.same("deliver(5)", quay.deliver(5), QuayMesh.SEEN);
        Check.same("seen(5)", quay.seen(5), second);
        Check.same("queue(5), which keeps it", quay.queue(5), 2);
        Check.same("queued(5, 1), at the end", quay.queued(5, 1), second);
        Check.same("whereIs(1), not taken yet", quay.whereIs(1), 101);
        Check.same("deliver(5) of the other", quay.deliver(5), QuayMesh.SEEN);
        Check.same("seen(5), which forgets the one before", quay.seen(5), first);
    }

    private static void promise8Lose() {
        QuayMesh quay = Yard.withBoxes(2);
        Check.same("lose(0, 1, false)", quay.lose(0, 1, false), 1);
        Check.same("lose(0, 9, false)", quay.lose(0, 9, false), 10);
        Check.same("lose(0, 9, true), the other sort", quay.lose(0, 9, true), 9);
        Check.same("deliver(0) of nothing, by which none is lost", quay.deliver(0), QuayMesh.EMPTY);
        quay.send(LIFT, 0, 0, 0);
        for (int i = 0; i < 10; i++) {
            Check.same("deliver(0)", quay.deliver(0), QuayMesh.LOST);
        }
        for (int i = 0; i < 9; i++) {
            Check.same("deliver(0)", quay.deliver(0), QuayMesh.UNHEARD);
        }
        Check.same("deliver(0)", quay.deliver(0), QuayMesh.ACKNOWLEDGED);
        Check.same("handed(0)", quay.handed(0), 20);
        Check.same("lose(0, 2, true), the others over", quay.lose(0, 2, true), 2);
        Check.same("lose(0, 2, false), the others over", quay.lose(0, 2, false), 2);
        Check.noIndex("lose(-1, 1, true)", quay, () -> quay.lose(-1, 1, true));
        Check.noIndex("lose(8, 0, true)", quay, () -> quay.lose(8, 0, true));
        Check.noArgument("lose(0, 0, true)", quay, () -> quay.lose(0, 0, true));
        Check.noArgument("lose(0, 10, false)", quay, () -> quay.lose(0, 10, false));
        Check.noArgument("lose(0, -1, false)", quay, () -> quay.lose(0, -1, false));
        Check.same("lose(0, 1, true)", quay.lose(0, 1, true), 3);
        Check.same("lose(0, 1, false)", quay.lose(0, 1, false), 3);
    }

    private static void promise8LossesAreEachWorkersOwn() {
        QuayMesh quay = Yard.withBoxes(8);
        Check.same("lose(7, 3, false)", quay.lose(7, 3, false), 3);
        Check.same("lose(6, 3, false)", quay.lose(6, 3, false), 3);
        quay.send(LIFT, 5, 0, 1);
        quay.send(CARRY, 5, 0, 7);
        Check.same("deliver(1), of which none is due", quay.deliver(1), QuayMesh.ACKNOWLEDGED);
        Check.same("deliver(7)", quay.deliver(7), QuayMesh.LOST);
        Check.same("lose(7, 1, false)", quay.lose(7, 1, false), 3);
    }

    private static void promise9Repeat() {
        QuayMesh quay = Yard.withBoxes(4);
        Yard.lift(quay, 1, 0);
        Yard.lift(quay, 2, 0);
        quay.send(LIFT, 3, 0, 0);
        Check.same("repeat(0), of the last one", quay.repeat(0), 1);
        Check.same("queued(0, 0)", quay.queued(0, 0), 2);
        Check.same("queued(0, 1), at the end", quay.queued(0, 1), 1);
        Check.noState("repeat(0) while it is in the queue", quay, () -> quay.repeat(0));
        Check.same("deliver(0) of the other", quay.deliver(0), QuayMesh.ACKNOWLEDGED);
        Check.same("repeat(0), the last one now", quay.repeat(0), 2);
        quay.park(0, 0);
        Check.same("deliver(0) of a repeated one", quay.deliver(0), QuayMesh.ACKNOWLEDGED);
        Check.same("placeOf(0)", quay.placeOf(0), 0);
        Check.same("moves(), none twice", quay.moves(), 3);
        Check.same("handed(1)", quay.handed(1), 2);
        quay.lose(0, 1, true);
        Check.same("deliver(0), unheard", quay.deliver(0), QuayMesh.UNHEARD);
        Check.same("repeat(0), the one that was heard last", quay.repeat(0), 1);
        Check.same("deliver(0), heard", quay.deliver(0), QuayMesh.ACKNOWLEDGED);
        Check.same("repeat(0)", quay.repeat(0), 2);
        Check.same("queued(0, 0)", quay.queued(0, 0), 1);
    }

    private static void promise9RepeatGivenAway() {
        QuayMesh quay = Yard.withBoxes(4);
        Yard.lift(quay, 1, 0);
        quay.repeat(0);
        quay.silence(0, true);
        quay.giveAway(0, 1);
        Check.noState("repeat(0) while it is in another queue", quay, () -> quay.repeat(0));
        Check.noState("repeat(1), which has acknowledged none", quay, () -> quay.repeat(1));
        Check.same("deliver(1)", quay.deliver(1), QuayMesh.ACKNOWLEDGED);
        Check.same("repeat(1)", quay.repeat(1), 0);
        Check.same("deliver(1)", quay.deliver(1), QuayMesh.ACKNOWLEDGED);
        Check.same("repeat(0), though it is silent", quay.repeat(0), 0);
        Check.same("queue(0)", quay.queue(0), 1);
        Check.same("queue(1)", quay.queue(1), 0);
        Check.same("moves()", quay.moves(), 1);
    }

    private static void promise10Silence() {
        QuayMesh quay = Yard.withBoxes(1);
        Check.same("silence(3, true)", quay.silence(3, true), false);
        Check.same("silence(3, true) again", quay.silence(3, true), true);
        Check.same("silence(2, false)", quay.silence(2, false), false);
        quay.send(LIFT, 0, 0, 3);
        Check.same("deliver(3)", quay.deliver(3), QuayMesh.SILENT);
        Check.same("silence(3, false)", quay.silence(3, false), true);
        Check.same("deliver(3)", quay.deliver(3), QuayMesh.NOT_YET);
        Check.same("silence(3, false) again", quay.silence(3, false), false);
        Check.noIndex("silence(-1, true)", quay, () -> quay.silence(-1, true));
        Check.noIndex("silence(4, true)", quay, () -> quay.silence(4, true));
    }

    private static void promise11GiveAway() {
        QuayMesh quay = Yard.withBoxes(8);
        quay.send(LIFT, 1, 0, 0);
        quay.send(LIFT, 2, 0, 0);
        quay.send(LIFT, 6, 0, 1);
        quay.lose(0, 1, true);
        Check.same("deliver(0)", quay.deliver(0), QuayMesh.UNHEARD);
        quay.silence(0, true);
        Check.same("giveAway(0, 1)", quay.giveAway(0, 1), 2);
        Check.same("queue(0)", quay.queue(0), 0);
        Check.same("queue(1)", quay.queue(1), 3);
        Check.same("queued(1, 0)", quay.queued(1, 0), 2);
        Check.same("queued(1, 1), the first one given", quay.queued(1, 1), 1);
        Check.same("queued(1, 2), the second one given", quay.queued(1, 2), 0);
        Check.same("giveAway(0, 1) of none", quay.giveAway(0, 1), 0);
        quay.silence(1, true);
        quay.silence(3, true);
        Check.same("giveAway(1, 3) to a silent one", quay.giveAway(1, 3), 3);
        Check.same("deliver(3)", quay.deliver(3), QuayMesh.SILENT);
        quay.silence(3, false);
        Check.same("deliver(3) beyond its reach", quay.deliver(3), QuayMesh.NOT_YET);
        Check.same("deliver(3) of what another has lifted", quay.deliver(3), QuayMesh.ACKNOWLEDGED);
        Check.same("liftedBy(1)", quay.liftedBy(1), 0);
        Check.same("moveAt(0)", quay.moveAt(0), 0);
        Check.same("unheard()", quay.unheard(), 0);
    }

    private static void promise12Park() {
        QuayMesh quay = new QuayMesh();
        Check.same("park(0, 4), next to the other", quay.park(0, 4), 0);
        Check.same("park(0, 4), where it stands", quay.park(0, 4), 4);
        Check.same("park(0, 0)", quay.park(0, 0), 4);
        Check.same("park(1, 1)", quay.park(1, 1), 5);
        Check.same("park(3, 15)", quay.park(3, 15), 15);
        Check.same("park(2, 14)", quay.park(2, 14), 10);
        Check.same("placeOf(2)", quay.placeOf(2), 14);
        quay.silence(1, true);
        Check.same("park(2, 2), next to a silent one", quay.park(2, 2), 14);
        Check.same("park(3, 3)", quay.park(3, 3), 15);
    }
}
