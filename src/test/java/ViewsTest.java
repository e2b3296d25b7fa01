/** Promises 16 to 31: what there is. */
public final class ViewsTest {
    private static final int LIFT = QuayMesh.LIFT;
    private static final int CARRY = QuayMesh.CARRY;
    private static final int FETCH = QuayMesh.FETCH;
    private static final int NONE = QuayMesh.NONE;

    private ViewsTest() {
    }

    public static void main(String[] args) {
        promise16And17HourAndBoxes();
        promise18WhereIs();
        promise19WhereByLog();
        promise19WhereByLogOutOfOrder();
        promise20LiftedBy();
        promise21BookedFor();
        promise22PlaceOf();
        promise23Height();
        promise24And25Queue();
        promise26Seen();
        promise27Handed();
        promise28IsDone();
        promise29To31Log();
        promise29To31LogByAnotherWorker();
        Check.end();
    }

    private static void promise16And17HourAndBoxes() {
        QuayMesh quay = Yard.withBoxesInStack(2);
        quay.advance(5);
        quay.advance(6);
        Check.same("hour()", quay.hour(), 11);
        Check.same("boxes()", quay.boxes(), 2);
        quay.book(0, 11, 1);
        Yard.fetch(quay, 1, 0, 4);
        Check.same("boxes(), one gone", quay.boxes(), 2);
    }

    private static void promise18WhereIs() {
        QuayMesh quay = Yard.withBoxesOnApron(12);
        int onShip = quay.box(1, 15);
        Check.same("whereIs on its ship", quay.whereIs(onShip), 15);
        Check.same("whereIs on the apron", quay.whereIs(11), 111);
        quay.send(CARRY, 11, 5, 7);
        quay.deliver(7);
        quay.act(7);
        Check.same("whereIs on a truck", quay.whereIs(11), 207);
        quay.act(7);
        Check.same("whereIs in a stack", quay.whereIs(11), 350);
        Yard.carry(quay, 10, 5, 6);
        Check.same("whereIs above it", quay.whereIs(10), 351);
        quay.book(1, 0, 10);
        Yard.fetch(quay, 10, 1, 6);
        Check.same("whereIs gone", quay.whereIs(10), 401);
    }

    private static void promise19WhereByLog() {
        QuayMesh quay = Yard.withBoxes(8);
        Check.same("whereByLog without a move", quay.whereByLog(3), 3);
        Yard.lift(quay, 3, 0);
        Check.same("whereByLog on the apron", quay.whereByLog(3), 103);
        quay.send(CARRY, 3, 4, 7);
        quay.deliver(7);
        quay.act(7);
        Check.same("whereByLog on a truck, by the log on the apron", quay.whereByLog(3), 103);
        quay.act(7);
        Check.same("whereByLog in a stack", quay.whereByLog(3), 340);
        Yard.lift(quay, 2, 0);
        Yard.carry(quay, 2, 4, 5);
        Check.same("whereByLog in a stack, whatever the level", quay.whereByLog(2), 340);
        quay.book(1, 0, 2);
        Yard.fetch(quay, 2, 1, 4);
        Check.same("whereByLog gone", quay.whereByLog(2), 401);
        Check.same("whereByLog of another box", quay.whereByLog(4), 4);
    }

    /** A move that is acknowledged later, but was made earlier, does not count any more. */
    private static void promise19WhereByLogOutOfOrder() {
        QuayMesh quay = Yard.withBoxes(4);
        quay.lose(0, 1, true);
        quay.send(LIFT, 3, 0, 0);
        quay.deliver(0);
        Check.same("whereByLog, unheard of", quay.whereByLog(3), 3);
        quay.lose(4, 1, true);
        quay.send(CARRY, 3, 1, 4);
        quay.deliver(4);
        quay.act(4);
        quay.act(4);
        Check.same("whereByLog, unheard of twice", quay.whereByLog(3), 3);
        Yard.carry(quay, 3, 2, 5);
        Check.same("whereByLog", quay.whereByLog(3), 320);
        quay.deliver(0);
        Check.same("whereByLog after the first move came into the log", quay.whereByLog(3), 320);
        quay.deliver(4);
        Check.same("whereByLog after the second one came", quay.whereByLog(3), 320);
        Check.same("moveAt(0), the last one made", quay.moveAt(0), 2);
        Check.same("moveAt(1)", quay.moveAt(1), 0);
        Check.same("moveAt(2)", quay.moveAt(2), 1);
    }

    private static void promise20LiftedBy() {
        QuayMesh quay = Yard.withBoxes(8);
        Check.same("liftedBy on its ship", quay.liftedBy(6), NONE);
        quay.lose(1, 1, true);
        quay.send(LIFT, 6, 0, 1);
        quay.deliver(1);
        Check.same("liftedBy, unheard of", quay.liftedBy(6), 1);
        Yard.carry(quay, 6, 0, 4);
        Check.same("liftedBy in a stack", quay.liftedBy(6), 1);
        quay.book(0, 0, 6);
        Yard.fetch(quay, 6, 0, 4);
        Check.same("liftedBy of a gone one", quay.liftedBy(6), 1);
    }

    private static void promise21BookedFor() {
        QuayMesh quay = Yard.withBoxesInStack(1);
        Check.same("bookedFor, not booked", quay.bookedFor(0), NONE);
        quay.book(1, 0, 0);
        Check.same("bookedFor the hour 0", quay.bookedFor(0), 0);
        quay.unbook(0);
        Check.same("bookedFor, unbooked", quay.bookedFor(0), NONE);
    }

    private static void promise22PlaceOf() {
        QuayMesh quay = Yard.withBoxes(4);
        quay.park(3, 11);
        Check.same("placeOf(3)", quay.placeOf(3), 11);
        quay.lose(0, 1, true);
        quay.send(LIFT, 2, 0, 0);
        quay.deliver(0);
        Check.same("placeOf(0)", quay.placeOf(0), 2);
    }

    private static void promise23Height() {
        QuayMesh quay = Yard.withBoxesInStack(3);
        Check.same("height(0)", quay.height(0), 3);
        Check.same("height(5)", quay.height(5), 0);
        Yard.carry(quay, 2, 5, 4);
        Check.same("height(0)", quay.height(0), 2);
        Check.same("height(5)", quay.height(5), 1);
        Check.noIndex("height(-1)", quay, () -> quay.height(-1));
        Check.noIndex("height(6)", quay, () -> quay.height(6));
    }

    private static void promise24And25Queue() {
        QuayMesh quay = Yard.withBoxes(4);
        quay.send(LIFT, 0, 0, 2);
        quay.send(CARRY, 0, 0, 6);
        quay.send(LIFT, 1, 0, 2);
        Check.same("queue(2)", quay.queue(2), 2);
        Check.same("queue(6)", quay.queue(6), 1);
        Check.same("queue(7)", quay.queue(7), 0);
        Check.same("queued(2, 1)", quay.queued(2, 1), 2);
        Check.same("queued(6, 0)", quay.queued(6, 0), 1);
        Check.noIndex("queued(2, 2)", quay, () -> quay.queued(2, 2));
        Check.noIndex("queued(2, -1)", quay, () -> quay.queued(2, -1));
        Check.noIndex("queued(7, 0)", quay, () -> quay.queued(7, 0));
        Check.noIndex("queued(8, 0)", quay, () -> quay.queued(8, 0));
        Check.noIndex("queued(-1, 0)", quay, () -> quay.queued(-1, 0));
    }

    private static void promise26Seen() {
        QuayMesh quay = Yard.withBoxesOnApron(1);
        int carry = quay.send(CARRY, 0, 0, 4);
        Check.same("seen(4), none yet", quay.seen(4), NONE);
        quay.deliver(4);
        Check.same("seen(4)", quay.seen(4), carry);
        Check.same("seen(5)", quay.seen(5), NONE);
        quay.act(4);
        Check.same("seen(4), the box taken", quay.seen(4), carry);
        quay.act(4);
        Check.same("seen(4), done", quay.seen(4), NONE);
        Check.noIndex("seen(3)", quay, () -> quay.seen(3));
        Check.noIndex("seen(8)", quay, () -> quay.seen(8));
        Check.noIndex("seen(-1)", quay, () -> quay.seen(-1));
    }

    private static void promise27Handed() {
        QuayMesh quay = Yard.withBoxes(4);
        int lift = quay.send(LIFT, 1, 0, 0);
        Check.same("handed, never", quay.handed(lift), 0);
        quay.lose(0, 1, false);
        quay.deliver(0);
        Check.same("handed, lost", quay.handed(lift), 1);
        quay.silence(0, true);
        quay.deliver(0);
        Check.same("handed to a silent one", quay.handed(lift), 2);
        quay.giveAway(0, 2);
        quay.deliver(2);
        Check.same("handed to one that cannot do it yet", quay.handed(lift), 3);
        quay.silence(2, true);
        quay.giveAway(2, 1);
        Check.same("handed, given away meanwhile", quay.handed(lift), 3);
        quay.deliver(1);
        Check.same("handed and acknowledged", quay.handed(lift), 4);
        quay.repeat(1);
        quay.deliver(1);
        Check.same("handed once more", quay.handed(lift), 5);
        Check.noIndex("handed(-1)", quay, () -> quay.handed(-1));
        Check.noIndex("handed(1)", quay, () -> quay.handed(1));
    }

    private static void promise28IsDone() {
        QuayMesh quay = Yard.withBoxes(4);
        quay.lose(0, 1, true);
        int lift = quay.send(LIFT, 1, 0, 0);
        Check.same("isDone, not handed", quay.isDone(lift), false);
        quay.deliver(0);
        Check.same("isDone, unheard", quay.isDone(lift), true);
        int again = quay.send(LIFT, 1, 0, 1);
        quay.deliver(1);
        Check.same("isDone, nothing to do", quay.isDone(again), false);
        Check.noIndex("isDone(-1)", quay, () -> quay.isDone(-1));
        Check.noIndex("isDone(2)", quay, () -> quay.isDone(2));
        Check.noIndex("isDone(80)", quay, () -> quay.isDone(80));
    }

    private static void promise29To31Log() {
        QuayMesh quay = Yard.withBoxesOnApron(2);
        Check.same("moves()", quay.moves(), 2);
        quay.lose(4, 1, true);
        int first = quay.send(CARRY, 0, 0, 4);
        quay.deliver(4);
        quay.act(4);
        Check.same("unheard(), the box taken", quay.unheard(), 0);
        quay.act(4);
        Check.same("unheard()", quay.unheard(), 1);
        Check.same("moves()", quay.moves(), 2);
        Yard.carry(quay, 1, 0, 5);
        Check.same("moves()", quay.moves(), 3);
        Check.same("moveAt(2)", quay.moveAt(2), 3);
        quay.deliver(4);
        Check.same("moves()", quay.moves(), 4);
        Check.same("moveAt(3), which came last", quay.moveAt(3), first);
        Check.same("unheard()", quay.unheard(), 0);
        quay.book(0, 0, 1);
        Yard.fetch(quay, 1, 0, 5);
        Check.same("moves(), one of them a FETCH", quay.moves(), 5);
        Check.noIndex("moveAt(-1)", quay, () -> quay.moveAt(-1));
        Check.noIndex("moveAt(5)", quay, () -> quay.moveAt(5));
    }

    private static void promise29To31LogByAnotherWorker() {
        QuayMesh quay = Yard.withBoxes(4);
        quay.lose(0, 1, true);
        int lift = quay.send(LIFT, 1, 0, 0);
        quay.deliver(0);
        quay.silence(0, true);
        quay.giveAway(0, 2);
        quay.lose(2, 1, true);
        Check.same("deliver(2), unheard too", quay.deliver(2), QuayMesh.UNHEARD);
        Check.same("unheard(), one move", quay.unheard(), 1);
        Check.same("deliver(2)", quay.deliver(2), QuayMesh.ACKNOWLEDGED);
        Check.same("unheard()", quay.unheard(), 0);
        Check.same("moveAt(0)", quay.moveAt(0), lift);
        quay.repeat(2);
        quay.deliver(2);
        Check.same("moves(), after a repeat", quay.moves(), 1);
    }
}
