/** Promises 16 to 23, what there is at the quay, sentence by sentence. */
public final class EdgesOfYardViewsTest {
    private static final int LIFT = QuayMesh.LIFT;
    private static final int CARRY = QuayMesh.CARRY;
    private static final int FETCH = QuayMesh.FETCH;
    private static final int NONE = QuayMesh.NONE;
    private static final int LEAST = Integer.MIN_VALUE;
    private static final int MOST = Integer.MAX_VALUE;

    private EdgesOfYardViewsTest() {
    }

    public static void main(String[] args) {
        Tests.runAll(EdgesOfYardViewsTest.class);
        Document.requirePromises(16, 23);
        Check.end();
    }

    private static QuayMesh twoBoxes() {
        return Yard.withBoxes(2);
    }

    // ---- hour and boxes

    private static void promise16Returns() {
        Document.promise(16, "Returns the hour.");
        QuayMesh quay = new QuayMesh();
        Check.same("hour(), the first one", quay.hour(), 0);
        quay.advance(1);
        Check.same("hour()", quay.hour(), 1);
        Yard.advanceToTheEnd(quay);
        Check.same("hour(), the last one", quay.hour(), 5000);
    }

    private static void promise17Returns() {
        Document.promise(17, "Returns the number of boxes.");
        Check.same("boxes(), none", Yard.withBoxes(0).boxes(), 0);
        Check.same("boxes(), one", Yard.withBoxes(1).boxes(), 1);
        QuayMesh quay = Yard.withFullStacks();
        Check.same("boxes(), the most", quay.boxes(), 24);
        quay.leave(0);
        Check.same("boxes(), their ship gone", quay.boxes(), 24);
        quay.book(0, 0, 23);
        Yard.fetch(quay, 23, 0, 4);
        Check.same("boxes(), one of them gone", quay.boxes(), 24);
    }

    // ---- whereIs

    private static void promise18Box() {
        Document.promise(18, "`box`: a box");
        QuayMesh quay = Yard.withFullStacks();
        Check.same("whereIs of the first box", quay.whereIs(0), 300);
        Check.same("whereIs of the last box", quay.whereIs(23), 353);
        Check.noIndex("whereIs(-1)", quay, () -> quay.whereIs(-1));
        Check.noIndex("whereIs(24)", quay, () -> quay.whereIs(24));
    }

    private static void promise18ReturnsThePlace() {
        Document.promise(18, "Returns 100 times SHIP, APRON, TRUCK, STACK or GONE; and added: the place");
        QuayMesh quay = Yard.withBoxes(16);
        Check.same("whereIs on a ship at 0", quay.whereIs(0), 0);
        Check.same("whereIs on a ship at 15", quay.whereIs(15), 15);
        Yard.lift(quay, 0, 0);
        Yard.lift(quay, 15, 3);
        Check.same("whereIs on the apron at 0", quay.whereIs(0), 100);
        Check.same("whereIs on the apron at 15", quay.whereIs(15), 115);
    }

    private static void promise18ReturnsTheTruck() {
        Document.promise(18, "the number of the truck");
        QuayMesh quay = Yard.withBoxesOnApron(4);
        for (int truck = 4; truck < 8; truck++) {
            quay.send(FETCH, truck - 4, 0, truck);
            quay.deliver(truck);
            quay.act(truck);
            Check.same("whereIs on truck " + truck, quay.whereIs(truck - 4), 200 + truck);
        }
    }

    private static void promise18ReturnsTheStackAndTheLevel() {
        Document.promise(18, "10 times the stack and the level");
        QuayMesh quay = Yard.withFullStacks();
        for (int box = 0; box < 24; box++) {
            Check.same("whereIs(" + box + ")", quay.whereIs(box), 300 + 10 * (box / 4) + box % 4);
        }
    }

    private static void promise18ReturnsTheGate() {
        Document.promise(18, "or the gate");
        QuayMesh quay = Yard.withABoxInEach(2);
        for (int gate = 0; gate < 2; gate++) {
            quay.book(gate, 0, gate);
            Yard.fetch(quay, gate, gate, 4);
            Check.same("whereIs gone by gate " + gate, quay.whereIs(gate), 400 + gate);
        }
    }

    private static void promise18Throws() {
        Document.promise(18, "Throws `IndexOutOfBoundsException` if there is no such box");
        for (int box : new int[] {LEAST, -1, 2, 24, MOST}) {
            Refused.withIndex("whereIs(" + box + ")", () -> twoBoxes(), quay -> quay.whereIs(box));
        }
    }

    private static void promise18AfterARefusal() {
        QuayMesh quay = twoBoxes();
        Check.noIndex("whereIs(2)", quay, () -> quay.whereIs(2));
        Check.same("whereIs(1)", quay.whereIs(1), 1);
        Check.same("box(1, 8), the next number", quay.box(1, 8), 2);
        Check.same("whereIs(2)", quay.whereIs(2), 8);
    }

    // ---- whereByLog

    private static void promise19Box() {
        Document.promise(19, "`box`: a box");
        QuayMesh quay = Yard.withFullStacks();
        Check.same("whereByLog of the first box", quay.whereByLog(0), 300);
        Check.same("whereByLog of the last box", quay.whereByLog(23), 350);
        Check.noIndex("whereByLog(-1)", quay, () -> quay.whereByLog(-1));
        Check.noIndex("whereByLog(24)", quay, () -> quay.whereByLog(24));
    }

    private static void promise19ReturnsThePlace() {
        Document.promise(19, "Returns 100 times SHIP, APRON, STACK or GONE; and added: the place");
        QuayMesh quay = Yard.withBoxes(16);
        Check.same("whereByLog on a ship at 0", quay.whereByLog(0), 0);
        Check.same("whereByLog on a ship at 15", quay.whereByLog(15), 15);
        Yard.lift(quay, 0, 0);
        Yard.lift(quay, 15, 3);
        Check.same("whereByLog on the apron at 0", quay.whereByLog(0), 100);
        Check.same("whereByLog on the apron at 15", quay.whereByLog(15), 115);
    }

    /** A truck's taking is no move: by the log the box is where it was. */
    private static void promise19ReturnsNoTruck() {
        QuayMesh quay = Yard.withBoxesInStack(1);
        quay.send(CARRY, 0, 5, 7);
        quay.deliver(7);
        Check.same("act(7)", quay.act(7), QuayMesh.TAKEN);
        Check.same("whereIs(0)", quay.whereIs(0), 207);
        Check.same("whereByLog(0)", quay.whereByLog(0), 300);
    }

    private static void promise19ReturnsTheStackAndNoLevel() {
        Document.promise(19, "10 times the stack");
        QuayMesh quay = Yard.withFullStacks();
        for (int box = 0; box < 24; box++) {
            Check.same("whereByLog(" + box + ")", quay.whereByLog(box), 300 + 10 * (box / 4));
        }
    }

    private static void promise19ReturnsTheGate() {
        Document.promise(19, "or the gate");
        QuayMesh quay = Yard.withABoxInEach(2);
        for (int gate = 0; gate < 2; gate++) {
            quay.book(gate, 0, gate);
            Yard.fetch(quay, gate, gate, 4);
            Check.same("whereByLog gone by gate " + gate, quay.whereByLog(gate), 400 + gate);
        }
    }

    private static void promise19Throws() {
        Document.promise(19, "Throws `IndexOutOfBoundsException` if there is no such box");
        for (int box : new int[] {LEAST, -1, 2, 24, MOST}) {
            Refused.withIndex("whereByLog(" + box + ")", () -> twoBoxes(), quay -> quay.whereByLog(box));
        }
    }

    private static void promise19AfterARefusal() {
        QuayMesh quay = twoBoxes();
        Check.noIndex("whereByLog(2)", quay, () -> quay.whereByLog(2));
        Check.same("moves()", quay.moves(), 0);
        Check.same("whereByLog(1)", quay.whereByLog(1), 1);
    }

    // ---- liftedBy

    private static void promise20Box() {
        Document.promise(20, "`box`: a box");
        QuayMesh quay = Yard.withFullStacks();
        Check.same("liftedBy of the first box", quay.liftedBy(0), 0);
        Check.same("liftedBy of the last box", quay.liftedBy(23), 0);
        Check.noIndex("liftedBy(-1)", quay, () -> quay.liftedBy(-1));
        Check.noIndex("liftedBy(24)", quay, () -> quay.liftedBy(24));
    }

    private static void promise20ReturnsTheCrane() {
        Document.promise(20, "Returns the crane");
        QuayMesh quay = Yard.withBoxes(16);
        for (int crane = 0; crane < 4; crane++) {
            Yard.lift(quay, 5 * crane, crane);
            Check.same("liftedBy(" + 5 * crane + ")", quay.liftedBy(5 * crane), crane);
        }
    }

    private static void promise20ReturnsNoneOnItsShip() {
        Document.promise(20, "NONE if it is on its ship.");
        QuayMesh quay = twoBoxes();
        quay.send(LIFT, 0, 0, 0);
        Check.same("liftedBy(0), a LIFT sent", quay.liftedBy(0), NONE);
        quay.lose(0, 1, false);
        quay.deliver(0);
        Check.same("liftedBy(0), the LIFT lost", quay.liftedBy(0), NONE);
        quay.deliver(0);
        Check.same("liftedBy(0)", quay.liftedBy(0), 0);
        Check.same("liftedBy(1)", quay.liftedBy(1), NONE);
    }

    private static void promise20Throws() {
        Document.promise(20, "Throws `IndexOutOfBoundsException` if there is no such box");
        for (int box : new int[] {LEAST, -1, 2, 24, MOST}) {
            Refused.withIndex("liftedBy(" + box + ")", () -> twoBoxes(), quay -> quay.liftedBy(box));
        }
    }

    private static void promise20AfterARefusal() {
        QuayMesh quay = Yard.withBoxesOnApron(1);
        Check.noIndex("liftedBy(1)", quay, () -> quay.liftedBy(1));
        Check.same("liftedBy(0)", quay.liftedBy(0), 0);
    }

    // ---- bookedFor

    private static void promise21Box() {
        Document.promise(21, "`box`: a box");
        QuayMesh quay = Yard.withFullStacks();
        quay.book(0, 1, 23);
        Check.same("bookedFor of the first box", quay.bookedFor(0), NONE);
        Check.same("bookedFor of the last box", quay.bookedFor(23), 1);
        Check.noIndex("bookedFor(-1)", quay, () -> quay.bookedFor(-1));
        Check.noIndex("bookedFor(24)", quay, () -> quay.bookedFor(24));
    }

    private static void promise21ReturnsTheHour() {
        Document.promise(21, "Returns the hour");
        QuayMesh quay = Yard.withABoxInEach(2);
        quay.book(0, 0, 0);
        quay.book(1, 24, 1);
        Check.same("bookedFor(0), the first hour", quay.bookedFor(0), 0);
        Check.same("bookedFor(1), the last hour", quay.bookedFor(1), 24);
    }

    private static void promise21ReturnsNone() {
        Document.promise(21, "NONE if it is not booked.");
        QuayMesh quay = Yard.withBoxes(1);
        Check.same("bookedFor on its ship", quay.bookedFor(0), NONE);
        QuayMesh other = Yard.withABoxInEach(4);
        other.book(0, 0, 0);
        other.book(1, 0, 1);
        other.book(1, 0, 2);
        other.unbook(0);
        Yard.fetch(other, 1, 1, 4);
        other.advance(1);
        Check.same("bookedFor of an unbooked one", other.bookedFor(0), NONE);
        Check.same("bookedFor of one that left", other.bookedFor(1), NONE);
        Check.same("bookedFor of one that was missed", other.bookedFor(2), NONE);
        Check.same("bookedFor of one never booked", other.bookedFor(3), NONE);
    }

    private static void promise21Throws() {
        Document.promise(21, "Throws `IndexOutOfBoundsException` if there is no such box");
        for (int box : new int[] {LEAST, -1, 2, 24, MOST}) {
            Refused.withIndex("bookedFor(" + box + ")", () -> twoBoxes(), quay -> quay.bookedFor(box));
        }
    }

    private static void promise21AfterARefusal() {
        QuayMesh quay = Yard.withABoxInEach(1);
        quay.book(0, 7, 0);
        Check.noIndex("bookedFor(1)", quay, () -> quay.bookedFor(1));
        Check.same("bookedFor(0)", quay.bookedFor(0), 7);
    }

    // ---- placeOf

    private static void promise22Crane() {
        Document.promise(22, "`crane`: 0 to 3");
        QuayMesh quay = new QuayMesh();
        Check.same("placeOf(0)", quay.placeOf(0), 0);
        Check.same("placeOf(3)", quay.placeOf(3), 15);
        Check.noIndex("placeOf(-1)", quay, () -> quay.placeOf(-1));
        Check.noIndex("placeOf(4)", quay, () -> quay.placeOf(4));
    }

    private static void promise22Returns() {
        Document.promise(22, "Returns the place.");
        QuayMesh quay = new QuayMesh();
        quay.park(1, 1);
        quay.park(2, 2);
        quay.park(3, 3);
        for (int crane = 0; crane < 4; crane++) {
            Check.same("placeOf(" + crane + ")", quay.placeOf(crane), crane);
        }
    }

    private static void promise22Throws() {
        Document.promise(22, "Throws `IndexOutOfBoundsException` if there is no such crane");
        for (int crane : new int[] {LEAST, -1, 4, 7, MOST}) {
            Refused.withIndex("placeOf(" + crane + ")", () -> twoBoxes(), quay -> quay.placeOf(crane));
        }
    }

    private static void promise22AfterARefusal() {
        QuayMesh quay = new QuayMesh();
        Check.noIndex("placeOf(4)", quay, () -> quay.placeOf(4));
        Check.same("placeOf(3)", quay.placeOf(3), 15);
        Check.same("park(0, 4)", quay.park(0, 4), 0);
    }

    // ---- height

    private static void promise23Stack() {
        Document.promise(23, "`stack`: 0 to 5");
        QuayMesh quay = Yard.withABoxInEach(6);
        for (int stack = 0; stack < 6; stack++) {
            Check.same("height(" + stack + ")", quay.height(stack), 1);
        }
        Check.noIndex("height(-1)", quay, () -> quay.height(-1));
        Check.noIndex("height(6)", quay, () -> quay.height(6));
    }

    private static void promise23Returns() {
        Document.promise(23, "Returns how many.");
        for (int many = 0; many <= 4; many++) {
            QuayMesh quay = Yard.withBoxesInStack(many);
            Check.same("height(0)", quay.height(0), many);
            Check.same("height(1)", quay.height(1), 0);
        }
    }

    private static void promise23Throws() {
        Document.promise(23, "Throws `IndexOutOfBoundsException` if there is no such stack");
        for (int stack : new int[] {LEAST, -1, 6, 24, MOST}) {
            Refused.withIndex("height(" + stack + ")", () -> twoBoxes(), quay -> quay.height(stack));
        }
    }

    private static void promise23AfterARefusal() {
        QuayMesh quay = Yard.withBoxesInStack(4);
        Check.noIndex("height(6)", quay, () -> quay.height(6));
        Check.same("height(0)", quay.height(0), 4);
        Check.same("height(5)", quay.height(5), 0);
    }
}
