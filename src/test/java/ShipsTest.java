/** Promises 1 to 4: a new object, and ships and boxes. */
public final class ShipsTest {
    private ShipsTest() {
    }

    public static void main(String[] args) {
        promise1NewObject();
        promise2BerthNumbersShips();
        promise2BerthRange();
        promise2BerthTakenPlaces();
        promise2BerthMostShips();
        promise2BerthOrderOfExceptions();
        promise3Box();
        promise3BoxWrongInputs();
        promise3MostBoxes();
        promise4Leave();
        promise4LeaveWithBoxes();
        Check.end();
    }

    private static void promise1NewObject() {
        QuayMesh quay = new QuayMesh();
        Check.same("hour()", quay.hour(), 0);
        Check.same("boxes()", quay.boxes(), 0);
        Check.same("moves()", quay.moves(), 0);
        Check.same("unheard()", quay.unheard(), 0);
        for (int crane = 0; crane < 4; crane++) {
            Check.same("placeOf(" + crane + ")", quay.placeOf(crane), 5 * crane);
            Check.same("silence of a new crane", quay.silence(crane, false), false);
        }
        for (int worker = 0; worker < 8; worker++) {
            Check.same("queue(" + worker + ")", quay.queue(worker), 0);
            Check.same("deliver(" + worker + ")", quay.deliver(worker), QuayMesh.EMPTY);
        }
        for (int truck = 4; truck < 8; truck++) {
            Check.same("seen(" + truck + ")", quay.seen(truck), QuayMesh.NONE);
            Check.same("act(" + truck + ")", quay.act(truck), QuayMesh.EMPTY);
        }
        for (int stack = 0; stack < 6; stack++) {
            Check.same("height(" + stack + ")", quay.height(stack), 0);
        }
        Check.noIndex("leave(0) of a new object", quay, () -> quay.leave(0));
        Check.noIndex("handed(0) of a new object", quay, () -> quay.handed(0));
    }

    private static void promise2BerthNumbersShips() {
        QuayMesh quay = new QuayMesh();
        Check.same("berth(4, 4)", quay.berth(4, 4), 0);
        Check.same("berth(0, 4), up to the other one", quay.berth(0, 4), 1);
        Check.same("berth(8, 1), behind the other one", quay.berth(8, 1), 2);
        Check.same("berth(15, 1), the last place", quay.berth(15, 1), 3);
    }

    private static void promise2BerthRange() {
        QuayMesh quay = new QuayMesh();
        Check.noIndex("berth(-1, 1)", quay, () -> quay.berth(-1, 1));
        Check.noIndex("berth(16, 1)", quay, () -> quay.berth(16, 1));
        Check.noIndex("berth(least, 1)", quay, () -> quay.berth(Integer.MIN_VALUE, 1));
        Check.noArgument("berth(0, 0)", quay, () -> quay.berth(0, 0));
        Check.noArgument("berth(0, -1)", quay, () -> quay.berth(0, -1));
        Check.noArgument("berth(0, 9)", quay, () -> quay.berth(0, 9));
        Check.noArgument("berth(9, 8), behind the quay", quay, () -> quay.berth(9, 8));
        Check.noArgument("berth(15, 2)", quay, () -> quay.berth(15, 2));
        Check.noArgument("berth(15, most)", quay, () -> quay.berth(15, Integer.MAX_VALUE));
        Check.same("berth(8, 8), up to the quay's end", quay.berth(8, 8), 0);
        Check.same("berth(0, 8)", quay.berth(0, 8), 1);
    }

    private static void promise2BerthTakenPlaces() {
        QuayMesh quay = new QuayMesh();
        quay.berth(4, 4);
        Check.noState("berth on the last place of another", quay, () -> quay.berth(7, 2));
        Check.noState("berth on the first place of another", quay, () -> quay.berth(1, 4));
        Check.noState("berth round another", quay, () -> quay.berth(3, 6));
        Check.noState("berth within another", quay, () -> quay.berth(5, 2));
        quay.leave(0);
        Check.same("berth where a ship has left", quay.berth(3, 6), 1);
    }

    private static void promise2BerthMostShips() {
        QuayMesh quay = new QuayMesh();
        for (int ship = 0; ship < 10; ship++) {
            Check.same("berth of ship " + ship, quay.berth(0, 1), ship);
            quay.leave(ship);
        }
        Check.noState("berth of an eleventh ship", quay, () -> quay.berth(0, 1));
    }

    private static void promise2BerthOrderOfExceptions() {
        QuayMesh quay = new QuayMesh();
        quay.berth(8, 8);
        Check.noIndex("berth(16, 0)", quay, () -> quay.berth(16, 0));
        Check.noArgument("berth(15, 2) at another ship", quay, () -> quay.berth(15, 2));
    }

    private static void promise3Box() {
        QuayMesh quay = new QuayMesh();
        quay.berth(3, 2);
        quay.berth(10, 1);
        Check.same("box(0, 3)", quay.box(0, 3), 0);
        Check.same("box(0, 4)", quay.box(0, 4), 1);
        Check.same("box(1, 10)", quay.box(1, 10), 2);
        Check.same("box(0, 3), where one is", quay.box(0, 3), 3);
        Check.same("boxes()", quay.boxes(), 4);
        Check.same("whereIs(0)", quay.whereIs(0), 3);
        Check.same("whereIs(2)", quay.whereIs(2), 10);
    }

    private static void promise3BoxWrongInputs() {
        QuayMesh quay = new QuayMesh();
        quay.berth(3, 2);
        Check.noIndex("box(-1, 3)", quay, () -> quay.box(-1, 3));
        Check.noIndex("box(1, 3)", quay, () -> quay.box(1, 3));
        Check.noIndex("box(1, 99), of neither", quay, () -> quay.box(1, 99));
        Check.noArgument("box(0, 2)", quay, () -> quay.box(0, 2));
        Check.noArgument("box(0, 5)", quay, () -> quay.box(0, 5));
        Check.noArgument("box(0, -1)", quay, () -> quay.box(0, -1));
        Check.noArgument("box(0, most)", quay, () -> quay.box(0, Integer.MAX_VALUE));
        quay.leave(0);
        Check.noIndex("box on a ship that has left", quay, () -> quay.box(0, 3));
    }

    private static void promise3MostBoxes() {
        QuayMesh quay = new QuayMesh();
        quay.berth(0, 2);
        for (int box = 0; box < 24; box++) {
            Check.same("box " + box, quay.box(0, box % 2), box);
        }
        Check.noState("a box 24", quay, () -> quay.box(0, 0));
        Check.noArgument("a box 24 beside the ship", quay, () -> quay.box(0, 2));
        Check.noIndex("a box 24 on no ship", quay, () -> quay.box(1, 0));
        Check.same("boxes()", quay.boxes(), 24);
    }

    private static void promise4Leave() {
        QuayMesh quay = Yard.withBoxesOnApron(10);
        Check.same("leave(0), its 8 boxes lifted", quay.leave(0), 8);
        Check.same("leave(1), its 2 boxes lifted", quay.leave(1), 2);
        Check.same("whereIs(0) after its ship has left", quay.whereIs(0), 100);
        Check.noIndex("leave(0) again", quay, () -> quay.leave(0));
        Check.same("berth(0, 2) where it was", quay.berth(0, 2), 2);
        Check.same("leave(2), without boxes", quay.leave(2), 0);
        Check.noIndex("leave(3)", quay, () -> quay.leave(3));
        Check.noIndex("leave(-1)", quay, () -> quay.leave(-1));
    }

    private static void promise4LeaveWithBoxes() {
        QuayMesh quay = Yard.withBoxesOnApron(2);
        quay.box(0, 5);
        Check.noState("leave(0) with a box on it", quay, () -> quay.leave(0));
        Check.same("leave(1) beside it", quay.leave(1), 0);
        Yard.lift(quay, 2, 0);
        Yard.carry(quay, 2, 3, 4);
        Check.same("leave(0), whose boxes are on the apron and in a stack", quay.leave(0), 3);
    }
}
