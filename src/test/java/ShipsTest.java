/** Promises 1 to 4: a new object, and ships and boxes. */
public final class ShipsTest {
    private ShipsTest() {
    }

    public static void main(String[] args) {
        promise1NewObject();
        promise2BerthNumbersShips();
        promise3Box();
        promise4Leave();
        promise4LeaveWithBoxes();
        Check.end();
    }

    private static void promise1NewObject() {
        QuayMesh quay = new QuayMesh();
        Check.same("hour()", quay.hour(), 0);
        Check.same("boxes()", quay.boxes(), 0);
        Check.same("moves()", quay.moves(), 0);
        Check.same("unheard()", quay.unheard(), 0);
        for (int crane = 0; crane < 4; crane++) {
            Check.same("placeOf(" + crane + ")", quay.placeOf(crane), 5 * crane);
            Check.same("silence of a new crane", quay.silence(crane, false), false);
        }
        for (int worker = 0; worker < 8; worker++) {
            Check.same("queue(" + worker + ")", quay.queue(worker), 0);
            Check.same("deliver(" + worker + ")", quay.deliver(worker), QuayMesh.EMPTY);
        }
        for (int truck = 4; truck < 8; truck++) {
            Check.same("seen(" + truck + ")", quay.seen(truck), QuayMesh.NONE);
            Check.same("act(" + truck + ")", quay.act(truck), QuayMesh.EMPTY);
        }
        for (int stack = 0; stack < 6; stack++) {
            Check.same("height(" + stack + ")", quay.height(stack), 0);
        }
        Check.noIndex("leave(0) of a new object", quay, () -> quay.leave(0));
        Check.noIndex("handed(0) of a new object", quay, () -> quay.handed(0));
    }

    private static void promise2BerthNumbersShips() {
        QuayMesh quay = new QuayMesh();
        Check.same("berth(4, 4)", quay.berth(4, 4), 0);
        Check.same("berth(0, 4), up to the other one", quay.berth(0, 4), 1);
        Check.same("berth(8, 1), behind the other one", quay.berth(8, 1), 2);
        Check.same("berth(15, 1), the last place", quay.berth(15, 1), 3);
    }

    private static void promise3Box() {
        QuayMesh quay = new QuayMesh();
        quay.berth(3, 2);
        quay.berth(10, 1);
        Check.same("box(0, 3)", quay.box(0, 3), 0);
        Check.same("box(0, 4)", quay.box(0, 4), 1);
        Check.same("box(1, 10)", quay.box(1, 10), 2);
        Check.same("box(0, 3), where one is", quay.box(0, 3), 3);
        Check.same("boxes()", quay.boxes(), 4);
        Check.same("whereIs(0)", quay.whereIs(0), 3);
        Check.same("whereIs(2)", quay.whereIs(2), 10);
    }

    private static void promise4Leave() {
        QuayMesh quay = Yard.withBoxesOnApron(10);
        Check.same("leave(0), its 8 boxes lifted", quay.leave(0), 8);
        Check.same("leave(1), its 2 boxes lifted", quay.leave(1), 2);
        Check.same("whereIs(0) after its ship has left", quay.whereIs(0), 100);
        Check.noIndex("leave(0) again", quay, () -> quay.leave(0));
        Check.same("berth(0, 2) where it was", quay.berth(0, 2), 2);
        Check.same("leave(2), without boxes", quay.leave(2), 0);
        Check.noIndex("leave(3)", quay, () -> quay.leave(3));
        Check.noIndex("leave(-1)", quay, () -> quay.leave(-1));
    }

    private static void promise4LeaveWithBoxes() {
        QuayMesh quay = Yard.withBoxesOnApron(2);
        quay.box(0, 5);
        Check.noState("leave(0) with a box on it", quay, () -> quay.leave(0));
        Check.same("leave(1) beside it", quay.leave(1), 0);
        Yard.lift(quay, 2, 0);
        Yard.carry(quay, 2, 3, 4);
        Check.same("leave(0), whose boxes are on the apron and in a stack", quay.leave(0), 3);
    }
}
