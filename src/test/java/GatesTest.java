/** Promises 13 to 15: gates and their slots, and hours that end. */
public final class GatesTest {
    private static final int NONE = QuayMesh.NONE;

    private GatesTest() {
    }

    public static void main(String[] args) {
        promise13Book();
        promise13SlotsOfEachGateAndHour();
        promise13BoxesAboveAndBelow();
        promise13BoxesOfOtherStacksDoNotCount();
        promise13FirstBoxUppermost();
        promise13ABoxThatLeftHasNoSlot();
        promise14Unbook();
        promise15Advance();
        promise15Missed();
        promise15BookingStaysOnATruck();
        Check.end();
    }

    private static void promise13Book() {
        QuayMesh quay = Yard.withBoxesInStack(1);
        Check.same("book(1, 3, 0)", quay.book(1, 3, 0), 1);
        Check.same("bookedFor(0)", quay.bookedFor(0), 3);
        Check.noState("book of a booked box", quay, () -> quay.book(1, 3, 0));
        Check.noState("book of a booked box at another hour", quay, () -> quay.book(0, 5, 0));
    }

    private static void promise13SlotsOfEachGateAndHour() {
        QuayMesh quay = Yard.withBoxesOnApron(6);
        for (int box = 0; box < 6; box++) {
            Yard.carry(quay, box, box, 4);
        }
        Check.same("book(0, 7, 0)", quay.book(0, 7, 0), 1);
        Check.same("book(0, 7, 1)", quay.book(0, 7, 1), 0);
        Check.noState("book(0, 7, 2), no slot left", quay, () -> quay.book(0, 7, 2));
        Check.same("book(1, 7, 2) at the other gate", quay.book(1, 7, 2), 1);
        Check.same("book(0, 8, 3) at the next hour", quay.book(0, 8, 3), 1);
        Check.same("unbook(1)", quay.unbook(1), 7);
        Check.same("book(0, 7, 4) in the slot that was freed", quay.book(0, 7, 4), 0);
        Check.noState("book(0, 7, 5), no slot left", quay, () -> quay.book(0, 7, 5));
    }

    private static void promise13BoxesAboveAndBelow() {
        QuayMesh quay = Yard.withBoxesInStack(4);
        Check.noState("book under boxes not booked", quay, () -> quay.book(0, 9, 2));
        Check.same("book of the uppermost", quay.book(0, 5, 3), 1);
        Check.noState("book under one of a later hour", quay, () -> quay.book(0, 4, 2));
        Check.same("book under one of the same hour", quay.book(1, 5, 2), 1);
        Check.same("book under those of earlier hours", quay.book(0, 6, 1), 1);
        Check.same("unbook(2) between them", quay.unbook(2), 5);
        Check.noState("book under one not booked, not right above", quay, () -> quay.book(1, 8, 0));
        Check.noState("book above one of an earlier hour", quay, () -> quay.book(0, 7, 2));
        Check.same("book above one of the same hour", quay.book(0, 6, 2), 0);
        Check.same("book of the lowest", quay.book(0, 7, 0), 1);
        Check.same("unbook(3)", quay.unbook(3), 5);
        Check.noState("book above one of an earlier hour, not right below", quay, () -> quay.book(1, 7, 3));
        Check.same("book of the uppermost again", quay.book(1, 6, 3), 1);
    }

    private static void promise13BoxesOfOtherStacksDoNotCount() {
        QuayMesh quay = Yard.withBoxesInStack(2);
        int other = quay.box(0, 7);
        Yard.lift(quay, other, 0);
        Yard.carry(quay, other, 1, 4);
        quay.book(0, 2, 1);
        Check.same("book of a lowest one, another stack's boxes above not booked", quay.book(0, 1, other), 1);
        Check.same("book under one of an earlier hour", quay.book(1, 3, 0), 1);
    }

    /** The first box that was made may stand above later ones. */
    private static void promise13FirstBoxUppermost() {
        QuayMesh quay = Yard.withBoxesOnApron(2);
        Yard.carry(quay, 1, 0, 4);
        Yard.carry(quay, 0, 0, 4);
        Check.noState("book under box 0, not booked", quay, () -> quay.book(0, 5, 1));
        quay.book(0, 6, 0);
        Check.noState("book under box 0, booked for a later hour", quay, () -> quay.book(0, 5, 1));
        quay.unbook(0);
        quay.book(0, 4, 0);
        quay.book(0, 5, 1);
        quay.unbook(0);
        Check.noState("book of box 0, above one of an earlier hour", quay, () -> quay.book(0, 6, 0));
    }

    private static void promise13ABoxThatLeftHasNoSlot() {
        QuayMesh quay = Yard.withBoxesInStack(3);
        quay.book(0, 0, 2);
        quay.book(0, 0, 1);
        Yard.fetch(quay, 2, 0, 4);
        Check.same("bookedFor(2)", quay.bookedFor(2), NONE);
        Check.same("book in the slot of a box that is not booked any more", quay.book(0, 0, 0), 0);
    }

    private static void promise14Unbook() {
        QuayMesh quay = Yard.withBoxesInStack(2);
        Check.noState("unbook(1), not booked", quay, () -> quay.unbook(1));
        quay.book(0, 0, 1);
        Check.same("unbook(1) of the hour 0", quay.unbook(1), 0);
        Check.same("bookedFor(1)", quay.bookedFor(1), NONE);
        Check.noState("unbook(1) again", quay, () -> quay.unbook(1));
        quay.book(0, 24, 1);
        quay.send(QuayMesh.CARRY, 1, 2, 5);
        quay.deliver(5);
        quay.act(5);
        Check.same("unbook(1) on a truck", quay.unbook(1), 24);
        Check.noIndex("unbook(-1)", quay, () -> quay.unbook(-1));
        Check.noIndex("unbook(2)", quay, () -> quay.unbook(2));
    }

    private static void promise15Advance() {
        QuayMesh quay = new QuayMesh();
        Check.same("advance(1)", quay.advance(1), 0);
        Check.same("hour()", quay.hour(), 1);
        Check.same("advance(48)", quay.advance(48), 0);
        Check.same("hour()", quay.hour(), 49);
        for (int i = 0; i < 103; i++) {
            quay.advance(48);
        }
        Check.same("hour()", quay.hour(), 4993);
        Check.noState("advance(8), to 5001", quay, () -> quay.advance(8));
        Check.same("advance(7), to 5000", quay.advance(7), 0);
        Check.same("hour()", quay.hour(), 5000);
        Check.noState("advance(1), to 5001", quay, () -> quay.advance(1));
        Check.noArgument("advance(0) at the end", quay, () -> quay.advance(0));
    }

    private static void promise15Missed() {
        QuayMesh quay = Yard.withBoxesInStack(4);
        quay.book(0, 1, 3);
        quay.book(0, 1, 2);
        quay.book(0, 2, 1);
        quay.book(0, 4, 0);
        Check.same("advance(1), to the hour of two", quay.advance(1), 0);
        Check.same("bookedFor(3)", quay.bookedFor(3), 1);
        Yard.fetch(quay, 3, 0, 4);
        Check.same("advance(2), beyond those of two", quay.advance(2), 2);
        Check.same("bookedFor(2)", quay.bookedFor(2), NONE);
        Check.same("bookedFor(1)", quay.bookedFor(1), NONE);
        Check.same("bookedFor(0)", quay.bookedFor(0), 4);
        Check.same("advance(1), to the hour of the last", quay.advance(1), 0);
        Check.same("advance(1), beyond it", quay.advance(1), 1);
        Check.same("advance(1), none left", quay.advance(1), 0);
        Check.same("book of a missed one", quay.book(0, 6, 2), 1);
    }

    private static void promise15BookingStaysOnATruck() {
        QuayMesh quay = Yard.withBoxesInStack(2);
        quay.book(0, 3, 1);
        Yard.carry(quay, 1, 5, 6);
        Check.same("bookedFor(1) in another stack", quay.bookedFor(1), 3);
        quay.send(QuayMesh.FETCH, 1, 0, 7);
        quay.deliver(7);
        quay.act(7);
        Check.same("bookedFor(1) on a truck", quay.bookedFor(1), 3);
        Check.same("advance(4), missed on a truck", quay.advance(4), 1);
        Check.same("bookedFor(1)", quay.bookedFor(1), NONE);
        Check.same("act(7)", quay.act(7), QuayMesh.NOT_YET);
    }
}
