/** Promises 13 to 15, the gates and the hours, sentence by sentence. What can be booked stands in EdgesOfTermsTest. */
public final class EdgesOfGatesTest {
    private static final int NONE = QuayMesh.NONE;
    private static final int LEAST = Integer.MIN_VALUE;
    private static final int MOST = Integer.MAX_VALUE;

    private EdgesOfGatesTest() {
    }

    public static void main(String[] args) {
        Tests.runAll(EdgesOfGatesTest.class);
        Document.requirePromises(13, 15);
        Check.end();
    }

    /** Two boxes in stack 0, the upper one booked at gate 0 for this hour, which is 3. */
    private static QuayMesh oneBooked() {
        QuayMesh quay = Yard.withBoxesInStack(2);
        quay.advance(3);
        quay.book(0, 3, 1);
        return quay;
    }

    /** A box that is booked, the hour is 5000. */
    private static QuayMesh bookedAtTheEnd() {
        QuayMesh quay = Yard.withBoxesInStack(1);
        Yard.advanceToTheEnd(quay);
        quay.book(1, 5000, 0);
        return quay;
    }

    // ---- book

    private static void promise13Gate() {
        Document.promise(13, "`gate`: 0 or 1");
        QuayMesh quay = Yard.withABoxInEach(2);
        Check.same("book(0, 0, 0)", quay.book(0, 0, 0), 1);
        Check.same("book(1, 0, 1)", quay.book(1, 0, 1), 1);
        Refused.withIndex("book(-1, 0, 0)", () -> Yard.withABoxInEach(2), each -> each.book(-1, 0, 0));
        Refused.withIndex("book(2, 0, 0)", () -> Yard.withABoxInEach(2), each -> each.book(2, 0, 0));
    }

    private static void promise13Hour() {
        Document.promise(13, "`hour`: this hour to that 24 later");
        for (int now : new int[] {0, 1, 30, 5000}) {
            QuayMesh quay = Yard.withABoxInEach(2);
            while (quay.hour() < now) {
                quay.advance(Math.min(48, now - quay.hour()));
            }
            Check.noArgument("book for the hour before " + now, quay, () -> quay.book(0, now - 1, 0));
            Check.noArgument("book for 25 hours after " + now, quay, () -> quay.book(0, now + 25, 0));
            Check.same("book for " + now, quay.book(0, now, 0), 1);
            Check.same("bookedFor(0)", quay.bookedFor(0), now);
            Check.same("book for 24 hours after " + now, quay.book(0, now + 24, 1), 1);
            Check.same("bookedFor(1)", quay.bookedFor(1), now + 24);
        }
    }

    private static void promise13Box() {
        Document.promise(13, "`box`: a box");
        QuayMesh quay = Yard.withFullStacks();
        Check.same("book of the last box", quay.book(0, 0, 23), 1);
        Check.noIndex("book of a box -1", quay, () -> quay.book(0, 0, -1));
        Check.noIndex("book of a box 24", quay, () -> quay.book(0, 0, 24));
        QuayMesh low = Yard.withABoxInEach(1);
        Check.same("book of the first box", low.book(0, 0, 0), 1);
    }

    private static void promise13Returns() {
        Document.promise(13, "Returns how many slots the gate has left for that hour.");
        QuayMesh quay = Yard.withABoxInEach(6);
        Check.same("book(0, 5, 0)", quay.book(0, 5, 0), 1);
        Check.same("book(1, 5, 1) at the other gate", quay.book(1, 5, 1), 1);
        Check.same("book(0, 6, 2) for the other hour", quay.book(0, 6, 2), 1);
        Check.same("book(0, 5, 3), the last slot", quay.book(0, 5, 3), 0);
        Check.same("unbook(0)", quay.unbook(0), 5);
        Check.same("book(0, 5, 4), the slot that was freed", quay.book(0, 5, 4), 0);
    }

    private static void promise13ThrowsNoSuchGate() {
        Document.promise(13, "Throws `IndexOutOfBoundsException` if there is no such gate");
        for (int gate : new int[] {LEAST, -1, 2, 3, MOST}) {
            Refused.withIndex("book(" + gate + ", 3, 0)", () -> oneBooked(), quay -> quay.book(gate, 3, 0));
        }
    }

    private static void promise13ThrowsNoSuchBox() {
        Document.promise(13, "or box");
        for (int box : new int[] {LEAST, -1, 2, 24, MOST}) {
            Refused.withIndex("book(0, 3, " + box + ")", () -> oneBooked(), quay -> quay.book(0, 3, box));
        }
        Refused.withIndex("book(0, 0, 0) without boxes", QuayMesh::new, quay -> quay.book(0, 0, 0));
    }

    private static void promise13ThrowsOutOfRange() {
        Document.promise(13, "Throws `IllegalArgumentException` if hour is out of range");
        for (int hour : new int[] {LEAST, -1, 0, 2, 28, MOST - 24, MOST}) {
            Refused.withArgument("book(0, " + hour + ", 0)", () -> oneBooked(), quay -> quay.book(0, hour, 0));
        }
        Refused.withArgument("book(0, -1, 0), the hour 0", () -> Yard.withABoxInEach(1), quay -> quay.book(0, -1, 0));
    }

    private static void promise13ThrowsCannotBeBooked() {
        Document.promise(13, "Throws `IllegalStateException` if it cannot be booked");
        Refused.withState("on its ship", () -> Yard.withBoxes(1), quay -> quay.book(0, 0, 0));
        Refused.withState("on the apron", () -> Yard.withBoxesOnApron(1), quay -> quay.book(0, 0, 0));
        Refused.withState("on a truck", () -> onATruck(), quay -> quay.book(0, 0, 0));
        Refused.withState("gone", () -> gone(), quay -> quay.book(0, 0, 0));
        Refused.withState("booked", () -> oneBooked(), quay -> quay.book(1, 4, 1));
        Refused.withState("no slot left", () -> twoBooked(), quay -> quay.book(0, 0, 2));
        Refused.withState("not booked above", () -> Yard.withBoxesInStack(2), quay -> quay.book(0, 0, 0));
        Refused.withState("booked later above", () -> laterAbove(), quay -> quay.book(0, 3, 0));
        Refused.withState("booked earlier below", () -> earlierBelow(), quay -> quay.book(0, 5, 1));
    }

    private static QuayMesh onATruck() {
        QuayMesh quay = Yard.withBoxesInStack(1);
        quay.send(QuayMesh.CARRY, 0, 1, 4);
        quay.deliver(4);
        quay.act(4);
        return quay;
    }

    private static QuayMesh gone() {
        QuayMesh quay = Yard.withBoxesInStack(1);
        quay.book(0, 0, 0);
        Yard.fetch(quay, 0, 0, 4);
        return quay;
    }

    private static QuayMesh twoBooked() {
        QuayMesh quay = Yard.withABoxInEach(3);
        quay.book(0, 0, 0);
        quay.book(0, 0, 1);
        return quay;
    }

    private static QuayMesh laterAbove() {
        QuayMesh quay = Yard.withBoxesInStack(2);
        quay.book(1, 4, 1);
        return quay;
    }

    private static QuayMesh earlierBelow() {
        QuayMesh quay = Yard.withBoxesInStack(2);
        quay.book(1, 4, 1);
        quay.book(1, 4, 0);
        quay.unbook(1);
        return quay;
    }

    private static void promise13FirstNamedIsThrown() {
        Refused.withIndex("no gate, no hour", () -> oneBooked(), quay -> quay.book(2, 2, 0));
        Refused.withIndex("no box, no hour", () -> oneBooked(), quay -> quay.book(0, 28, 2));
        Refused.withIndex("no gate, no box", () -> oneBooked(), quay -> quay.book(-1, 3, -1));
        Refused.withIndex("no gate, booked", () -> oneBooked(), quay -> quay.book(2, 3, 1));
        Refused.withIndex("no gate, on its ship", () -> Yard.withBoxes(1), quay -> quay.book(2, 0, 0));
        Refused.withIndex("no box, no slot left", () -> twoBooked(), quay -> quay.book(0, 0, 3));
        Refused.withArgument("no hour, booked", () -> oneBooked(), quay -> quay.book(0, 2, 1));
        Refused.withArgument("no hour, on its ship", () -> Yard.withBoxes(1), quay -> quay.book(0, 25, 0));
        Refused.withArgument("no hour, not booked above", () -> Yard.withBoxesInStack(2), quay -> quay.book(0, -1, 0));
        Refused.withIndex("no gate, no hour, on its ship", () -> Yard.withBoxes(1), quay -> quay.book(2, 25, 0));
    }

    private static void promise13AfterARefusal() {
        QuayMesh quay = Yard.withABoxInEach(3);
        Check.noIndex("book(2, 0, 0)", quay, () -> quay.book(2, 0, 0));
        Check.noArgument("book(0, 25, 0)", quay, () -> quay.book(0, 25, 0));
        Check.same("bookedFor(0)", quay.bookedFor(0), NONE);
        quay.book(0, 0, 0);
        quay.book(0, 0, 1);
        Check.noState("book(0, 0, 2)", quay, () -> quay.book(0, 0, 2));
        Check.noState("book(1, 4, 1)", quay, () -> quay.book(1, 4, 1));
        Check.same("bookedFor(1), as before", quay.bookedFor(1), 0);
        Check.same("bookedFor(2)", quay.bookedFor(2), NONE);
        Check.noState("unbook(2)", quay, () -> quay.unbook(2));
        Check.same("book(1, 4, 2), of both slots", quay.book(1, 4, 2), 1);
        Check.same("unbook(0)", quay.unbook(0), 0);
        Check.same("unbook(2)", quay.unbook(2), 4);
        Check.same("book(0, 0, 2), the slot that is left", quay.book(0, 0, 2), 0);
    }

    // ---- unbook

    private static void promise14Box() {
        Document.promise(14, "`box`: a box");
        QuayMesh quay = Yard.withFullStacks();
        for (int box = 3; box >= 0; box--) {
            quay.book(box % 2, 3 - box, box);
        }
        quay.book(0, 24, 23);
        Check.same("unbook of the first box", quay.unbook(0), 3);
        Check.same("unbook of the last box", quay.unbook(23), 24);
        Check.noIndex("unbook(-1)", quay, () -> quay.unbook(-1));
        Check.noIndex("unbook(24)", quay, () -> quay.unbook(24));
    }

    private static void promise14Returns() {
        Document.promise(14, "Returns the hour.");
        QuayMesh quay = Yard.withABoxInEach(1);
        for (int hour = 0; hour <= 24; hour++) {
            quay.book(hour % 2, hour, 0);
            Check.same("unbook(0)", quay.unbook(0), hour);
            Check.same("bookedFor(0)", quay.bookedFor(0), NONE);
        }
        QuayMesh end = bookedAtTheEnd();
        Check.same("unbook(0) of the hour 5000", end.unbook(0), 5000);
        Check.same("book(0, 5024, 0)", end.book(0, 5024, 0), 1);
        Check.same("unbook(0)", end.unbook(0), 5024);
    }

    private static void promise14ThrowsNoSuchBox() {
        Document.promise(14, "Throws `IndexOutOfBoundsException` if there is no such box");
        for (int box : new int[] {LEAST, -1, 2, 24, MOST}) {
            Refused.withIndex("unbook(" + box + ")", () -> oneBooked(), quay -> quay.unbook(box));
        }
        Refused.withIndex("unbook(0) without boxes", QuayMesh::new, quay -> quay.unbook(0));
    }

    private static void promise14ThrowsNotBooked() {
        Document.promise(14, "Throws `IllegalStateException` if it is not booked");
        Refused.withState("on its ship", () -> Yard.withBoxes(1), quay -> quay.unbook(0));
        Refused.withState("on the apron", () -> Yard.withBoxesOnApron(1), quay -> quay.unbook(0));
        Refused.withState("on a truck", () -> onATruck(), quay -> quay.unbook(0));
        Refused.withState("in a stack, below a booked one", () -> oneBooked(), quay -> quay.unbook(0));
        Refused.withState("gone, and no more booked", () -> gone(), quay -> quay.unbook(0));
        QuayMesh missed = oneBooked();
        missed.advance(1);
        Check.noState("unbook(1), missed", missed, () -> missed.unbook(1));
        QuayMesh twice = oneBooked();
        twice.unbook(1);
        Check.noState("unbook(1) again", twice, () -> twice.unbook(1));
    }

    /** A box that is none is not booked either. */
    private static void promise14FirstNamedIsThrown() {
        Refused.withIndex("unbook(1), nothing booked", () -> Yard.withABoxInEach(1), quay -> quay.unbook(1));
        Refused.withIndex("unbook(-1), nothing booked", () -> Yard.withABoxInEach(1), quay -> quay.unbook(-1));
    }

    private static void promise14AfterARefusal() {
        QuayMesh quay = oneBooked();
        Check.noState("unbook(0)", quay, () -> quay.unbook(0));
        Check.noIndex("unbook(2)", quay, () -> quay.unbook(2));
        Check.same("bookedFor(1)", quay.bookedFor(1), 3);
        Check.same("book(0, 3, 0), the gate's last slot", quay.book(0, 3, 0), 0);
        Check.same("unbook(1)", quay.unbook(1), 3);
    }

    // ---- advance

    private static void promise15Hours() {
        Document.promise(15, "`hours`: 1 to 48");
        QuayMesh quay = new QuayMesh();
        Check.noArgument("advance(0)", quay, () -> quay.advance(0));
        Check.noArgument("advance(49)", quay, () -> quay.advance(49));
        Check.same("advance(1)", quay.advance(1), 0);
        Check.same("hour()", quay.hour(), 1);
        Check.same("advance(48)", quay.advance(48), 0);
        Check.same("hour()", quay.hour(), 49);
    }

    /** What is booked for an hour is missed when that hour ends, not when it begins. */
    private static void promise15Returns() {
        Document.promise(15, "Returns how many bookings are missed.");
        QuayMesh quay = Yard.withABoxInEach(6);
        Check.same("advance(48), none booked", quay.advance(48), 0);
        for (int box = 0; box < 6; box++) {
            quay.book(box / 3, 48 + box, box);
        }
        Check.same("advance(1), that of 48 missed", quay.advance(1), 1);
        Check.same("bookedFor(0)", quay.bookedFor(0), NONE);
        Check.same("bookedFor(1), for this hour", quay.bookedFor(1), 49);
        Check.same("advance(2), those of 49 and 50 missed", quay.advance(2), 2);
        Check.same("bookedFor(3), for this hour", quay.bookedFor(3), 51);
        Check.same("advance(48), all others missed", quay.advance(48), 3);
        Check.same("advance(48), none left", quay.advance(48), 0);
    }

    private static void promise15ReturnsNoneOfThoseThatLeft() {
        QuayMesh quay = Yard.withABoxInEach(2);
        quay.book(0, 0, 0);
        quay.book(0, 0, 1);
        Yard.fetch(quay, 0, 0, 4);
        Check.same("advance(1), one has left", quay.advance(1), 1);
        QuayMesh unbooked = Yard.withABoxInEach(2);
        unbooked.book(0, 0, 0);
        unbooked.book(0, 0, 1);
        unbooked.unbook(1);
        Check.same("advance(1), one unbooked", unbooked.advance(1), 1);
    }

    private static void promise15ReturnsAtMost() {
        QuayMesh quay = Yard.withFullStacks();
        for (int box = 23; box >= 0; box--) {
            quay.book(box % 2, (23 - box) / 4, box);
        }
        Check.same("advance(48), all 24 boxes booked", quay.advance(48), 24);
    }

    private static void promise15ThrowsOutOfRange() {
        Document.promise(15, "Throws `IllegalArgumentException` if hours is out of range");
        for (int hours : new int[] {LEAST, -48, -1, 0, 49, MOST}) {
            Refused.withArgument("advance(" + hours + ")", () -> oneBooked(), quay -> quay.advance(hours));
        }
    }

    private static void promise15ThrowsAboveTheLastHour() {
        Document.promise(15, "Throws `IllegalStateException` if the hour would be above 5000");
        QuayMesh quay = new QuayMesh();
        while (quay.hour() < 4944) {
            quay.advance(48);
        }
        Check.same("advance(9), to 4953", quay.advance(9), 0);
        Check.noState("advance(48), to 5001", quay, () -> quay.advance(48));
        Check.same("advance(47), to 5000", quay.advance(47), 0);
        Check.same("hour()", quay.hour(), 5000);
        Check.noState("advance(1), to 5001", quay, () -> quay.advance(1));
        Check.noState("advance(48), to 5048", quay, () -> quay.advance(48));
        Check.same("hour()", quay.hour(), 5000);
    }

    private static void promise15FirstNamedIsThrown() {
        Refused.withArgument("advance(49), to 5049", () -> bookedAtTheEnd(), quay -> quay.advance(49));
        Refused.withArgument("advance(most)", () -> bookedAtTheEnd(), quay -> quay.advance(MOST));
        Refused.withArgument("advance(0), at 5000", () -> bookedAtTheEnd(), quay -> quay.advance(0));
        Refused.withState("advance(48), at 5000", () -> bookedAtTheEnd(), quay -> quay.advance(48));
    }

    private static void promise15AfterARefusal() {
        QuayMesh quay = oneBooked();
        Check.noArgument("advance(49)", quay, () -> quay.advance(49));
        Check.noArgument("advance(-1)", quay, () -> quay.advance(-1));
        Check.same("hour()", quay.hour(), 3);
        Check.same("bookedFor(1)", quay.bookedFor(1), 3);
        Check.same("advance(1), by which it is missed", quay.advance(1), 1);
        QuayMesh end = bookedAtTheEnd();
        Check.noState("advance(1)", end, () -> end.advance(1));
        Check.same("bookedFor(0), not missed", end.bookedFor(0), 5000);
        Yard.fetch(end, 0, 1, 4);
        Check.same("whereIs(0), which left in the last hour", end.whereIs(0), 401);
    }
}
