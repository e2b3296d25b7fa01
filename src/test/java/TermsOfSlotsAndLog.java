/** "Terms", from the slots to the log. */
final class TermsOfSlotsAndLog {
    private static final int LIFT = QuayMesh.LIFT;
    private static final int CARRY = QuayMesh.CARRY;
    private static final int NONE = QuayMesh.NONE;

    private TermsOfSlotsAndLog() {
    }

    // ---- slots

    private static void termsTwoSlots() {
        Document.terms("Slots. A gate has 2 slots for each hour.");
        QuayMesh quay = Yard.withABoxInEach(6);
        for (int gate = 0; gate < 2; gate++) {
            for (int hour = 0; hour < 2; hour++) {
                int each = gate;
                int then = hour;
                Check.same("book of the first slot", quay.book(gate, hour, 0), 1);
                Check.same("book of the second slot", quay.book(gate, hour, 1), 0);
                Check.noState("book of a third one", quay, () -> quay.book(each, then, 2));
                Check.same("book at the other gate", quay.book(1 - gate, hour, 3), 1);
                Check.same("book for the other hour", quay.book(gate, 1 - hour, 4), 1);
                for (int box : new int[] {0, 1, 3, 4}) {
                    quay.unbook(box);
                }
            }
        }
    }

    /** What has left, was unbooked or missed is not booked any more: the slots it had are free. */
    private static void termsASlotIsFreeAgain() {
        QuayMesh quay = Yard.withABoxInEach(6);
        quay.book(0, 0, 0);
        quay.book(0, 0, 1);
        quay.unbook(0);
        Check.same("book of the slot of an unbooked one", quay.book(0, 0, 2), 0);
        Yard.fetch(quay, 1, 0, 4);
        Check.same("book of the slot of one that left", quay.book(0, 0, 3), 0);
        Check.noState("book of a third one", quay, () -> quay.book(0, 0, 4));
    }

    private static void termsABoxInAStackCanBeBooked() {
        Document.terms("A box that is in a stack");
        QuayMesh quay = Yard.withBoxes(1);
        Check.noState("book on its ship", quay, () -> quay.book(0, 0, 0));
        Yard.lift(quay, 0, 0);
        Check.noState("book on the apron", quay, () -> quay.book(0, 0, 0));
        quay.send(CARRY, 0, 0, 4);
        quay.deliver(4);
        quay.act(4);
        Check.noState("book on a truck", quay, () -> quay.book(0, 0, 0));
        quay.act(4);
        Check.same("book in a stack", quay.book(0, 0, 0), 1);
        Yard.fetch(quay, 0, 0, 4);
        Check.noState("book when it is gone", quay, () -> quay.book(0, 0, 0));
    }

    private static void termsABoxThatIsNotBookedCanBeBooked() {
        Document.terms("and is not booked can be booked");
        QuayMesh quay = Yard.withABoxInEach(1);
        quay.book(0, 4, 0);
        Check.noState("book again", quay, () -> quay.book(0, 4, 0));
        Check.noState("book for another hour", quay, () -> quay.book(0, 5, 0));
        Check.noState("book at another gate", quay, () -> quay.book(1, 4, 0));
        Check.same("bookedFor(0)", quay.bookedFor(0), 4);
        quay.unbook(0);
        Check.same("book when it is unbooked", quay.book(1, 5, 0), 1);
        quay.advance(6);
        Check.same("book when it was missed", quay.book(1, 6, 0), 1);
    }

    private static void termsThisHourOrOneOfTheNext24() {
        Document.terms("for an hour, this one or one of the next 24");
        QuayMesh quay = Yard.withABoxInEach(1);
        quay.advance(7);
        for (int hour = 7; hour <= 31; hour++) {
            Check.same("book(0, " + hour + ", 0)", quay.book(0, hour, 0), 1);
            Check.same("unbook(0)", quay.unbook(0), hour);
        }
        Check.noArgument("book(0, 6, 0)", quay, () -> quay.book(0, 6, 0));
        Check.noArgument("book(0, 32, 0)", quay, () -> quay.book(0, 32, 0));
    }

    private static void termsAtAGateWithASlotLeft() {
        Document.terms("at a gate with a slot left");
        QuayMesh quay = Yard.withABoxInEach(3);
        quay.book(1, 9, 0);
        Check.same("book with one left", quay.book(1, 9, 1), 0);
        Check.noState("book with none left", quay, () -> quay.book(1, 9, 2));
        Check.same("book at the other gate", quay.book(0, 9, 2), 1);
    }

    /** Boxes 0 to 3 in stack 0, box 0 lowest, booked for those hours (NONE: not booked) before they came there. */
    private static QuayMesh bookedFor(int... hours) {
        QuayMesh quay = Yard.withABoxInEach(4);
        for (int box = 0; box < 4; box++) {
            if (hours[box] != NONE) {
                quay.book(box % 2, hours[box], box);
            }
        }
        for (int box = 1; box < 4; box++) {
            Yard.carry(quay, box, 0, 4);
        }
        return quay;
    }

    private static void termsEachBoxAboveIsBookedThenOrEarlier() {
        Document.terms("if each box above it in the stack is booked for that hour or an earlier one");
        for (int above = 1; above < 4; above++) {
            int gate = 1 - above % 2;
            QuayMesh none = withOne(above, NONE, 4, 0);
            Check.noState("box " + above + " not booked", none, () -> none.book(gate, 5, 0));
            QuayMesh later = withOne(above, 6, 4, 0);
            Check.noState("box " + above + " booked an hour later", later, () -> later.book(gate, 5, 0));
            Check.same("box " + above + " booked then", withOne(above, 5, 4, 0).book(gate, 5, 0), 1);
            Check.same("box " + above + " booked an hour earlier", withOne(above, 4, 4, 0).book(gate, 5, 0), 1);
        }
        Check.same("the uppermost one, the others not booked", bookedFor(NONE, NONE, NONE, NONE).book(0, 5, 3), 1);
    }

    private static void termsNoBoxBelowIsBookedEarlier() {
        Document.terms("and no box below it is booked for an earlier one.");
        for (int below = 0; below < 3; below++) {
            int gate = 1 - below % 2;
            QuayMesh earlier = withOne(below, 4, 6, 3);
            Check.noState("box " + below + " booked an hour earlier", earlier, () -> earlier.book(gate, 5, 3));
            Check.same("box " + below + " booked then", withOne(below, 5, 6, 3).book(gate, 5, 3), 1);
            Check.same("box " + below + " booked an hour later", withOne(below, 6, 6, 3).book(gate, 5, 3), 1);
            Check.same("box " + below + " not booked", withOne(below, NONE, 6, 3).book(gate, 5, 3), 1);
        }
    }

    /** All booked for the hour of the others, but for one box, and another one that is not booked. */
    private static QuayMesh withOne(int box, int itsHour, int hourOfOthers, int notBooked) {
        int[] hours = {hourOfOthers, hourOfOthers, hourOfOthers, hourOfOthers};
        hours[box] = itsHour;
        hours[notBooked] = NONE;
        return bookedFor(hours);
    }

    /** What stands below need not be booked, nor what stands above be booked by the same gate; other stacks do not count. */
    private static void termsBoxesOfOtherStacksDoNotCount() {
        QuayMesh quay = Yard.withFullStacks();
        quay.book(0, 1, 23);
        Check.same("book of the uppermost one of another stack", quay.book(0, 9, 3), 1);
        Check.same("book below it", quay.book(1, 9, 2), 1);
        Check.noState("book below one not booked", quay, () -> quay.book(1, 9, 0));
    }

    private static void termsABookingStays() {
        Document.terms("A booking stays, wherever the box is brought meanwhile.");
        QuayMesh quay = Yard.withABoxInEach(2);
        quay.book(1, 8, 0);
        quay.send(CARRY, 0, 1, 4);
        quay.deliver(4);
        quay.act(4);
        Check.same("bookedFor(0), on a truck", quay.bookedFor(0), 8);
        Check.noState("book of it on the truck", quay, () -> quay.book(0, 8, 0));
        quay.act(4);
        Check.same("bookedFor(0), in another stack", quay.bookedFor(0), 8);
        quay.book(1, 8, 1);
        Check.same("unbook(1)", quay.unbook(1), 8);
        quay.advance(8);
        Check.same("bookedFor(0), in its hour", quay.bookedFor(0), 8);
        Yard.fetch(quay, 0, 1, 5);
        Check.same("whereIs(0), gone by the gate of the booking", quay.whereIs(0), 401);
    }

    /** Its slot is taken all the while. */
    private static void termsABookingStaysAndItsSlotToo() {
        QuayMesh quay = Yard.withABoxInEach(3);
        quay.book(0, 2, 0);
        quay.send(CARRY, 0, 5, 4);
        quay.deliver(4);
        quay.act(4);
        Check.same("book beside it, on a truck", quay.book(0, 2, 1), 0);
        quay.act(4);
        Check.noState("book of a third one", quay, () -> quay.book(0, 2, 2));
    }

    private static void termsAnHourEnds() {
        Document.terms("When an hour ends, what is booked for it and has not left is missed: it is not booked any more.");
        QuayMesh quay = Yard.withABoxInEach(4);
        quay.book(0, 1, 0);
        quay.book(0, 2, 1);
        quay.book(1, 1, 2);
        quay.book(0, 1, 3);
        Check.same("advance(1), by which the hour 0 ends", quay.advance(1), 0);
        Yard.fetch(quay, 2, 1, 4);
        quay.send(CARRY, 3, 4, 5);
        quay.deliver(5);
        quay.act(5);
        Check.same("advance(1), by which the hour 1 ends", quay.advance(1), 2);
        Check.same("bookedFor(0), in its stack", quay.bookedFor(0), NONE);
        Check.same("bookedFor(3), on a truck", quay.bookedFor(3), NONE);
        Check.same("bookedFor(1), for this hour", quay.bookedFor(1), 2);
        Check.same("bookedFor(2), which left", quay.bookedFor(2), NONE);
        Check.same("book of one that was missed", quay.book(0, 2, 0), 0);
        Check.same("whereIs(3), still on the truck", quay.whereIs(3), 205);
    }

    private static void termsAMissedOneDoesNotLeave() {
        QuayMesh quay = Yard.withABoxInEach(1);
        quay.book(0, 0, 0);
        quay.send(QuayMesh.FETCH, 0, 0, 4);
        quay.deliver(4);
        quay.act(4);
        quay.advance(1);
        Check.same("act(4), missed", quay.act(4), QuayMesh.NOT_YET);
        Check.same("whereIs(0)", quay.whereIs(0), 204);
    }

    // ---- the log

    private static void termsTheLogIsInTheOrderOfAcknowledgements() {
        Document.terms("The log has the acknowledged moves in the order in which they came into it.");
        QuayMesh quay = Yard.withBoxes(4);
        quay.lose(0, 2, true);
        for (int box = 0; box < 4; box++) {
            quay.send(LIFT, box, 0, 0);
        }
        for (int i = 0; i < 4; i++) {
            quay.deliver(0);
        }
        Check.same("moves(), two unheard", quay.moves(), 2);
        quay.deliver(0);
        quay.deliver(0);
        int[] order = {2, 3, 0, 1};
        for (int move = 0; move < 4; move++) {
            Check.same("moveAt(" + move + ")", quay.moveAt(move), order[move]);
        }
    }

    /** The earlier of two moves comes into the log after the later one. */
    private static void termsByTheLogWhatWasMadeLast() {
        Document.terms("By the log a box is where that one of its moves in the log has brought it that was made last:");
        QuayMesh quay = Yard.withBoxesOnApron(1);
        quay.lose(4, 1, true);
        quay.send(CARRY, 0, 1, 4);
        quay.deliver(4);
        quay.act(4);
        quay.act(4);
        Check.same("whereByLog(0), that move unheard", quay.whereByLog(0), 100);
        Yard.carry(quay, 0, 2, 5);
        Check.same("whereByLog(0), a later move heard", quay.whereByLog(0), 320);
        Check.same("deliver(4)", quay.deliver(4), QuayMesh.ACKNOWLEDGED);
        Check.same("moveAt(2), the earlier one", quay.moveAt(2), 1);
        Check.same("whereByLog(0), the earlier one heard too", quay.whereByLog(0), 320);
        Yard.carry(quay, 0, 1, 4);
        Check.same("whereByLog(0), brought there again", quay.whereByLog(0), 310);
    }

    /** What is not in the log does not count, though it was made last. */
    private static void termsByTheLogWhatIsUnheardDoesNotCount() {
        QuayMesh quay = Yard.withBoxesInStack(1);
        quay.book(0, 0, 0);
        quay.lose(4, 1, true);
        quay.send(QuayMesh.FETCH, 0, 0, 4);
        quay.deliver(4);
        quay.act(4);
        Check.same("act(4)", quay.act(4), QuayMesh.UNHEARD);
        Check.same("whereIs(0)", quay.whereIs(0), 400);
        Check.same("whereByLog(0)", quay.whereByLog(0), 300);
        Check.same("deliver(4)", quay.deliver(4), QuayMesh.ACKNOWLEDGED);
        Check.same("whereByLog(0)", quay.whereByLog(0), 400);
    }

    private static void termsByTheLogOfEachKind() {
        Document.terms("on the apron by LIFT, in a stack by CARRY, gone by FETCH");
        QuayMesh quay = Yard.withBoxes(8);
        Yard.lift(quay, 7, 1);
        Check.same("whereByLog(7)", quay.whereByLog(7), 107);
        Yard.carry(quay, 7, 5, 4);
        Check.same("whereByLog(7)", quay.whereByLog(7), 350);
        quay.book(1, 0, 7);
        Yard.fetch(quay, 7, 1, 4);
        Check.same("whereByLog(7)", quay.whereByLog(7), 401);
    }

    /** Also what is lifted unheard is on its ship by the log, and what another box did does not count. */
    private static void termsByTheLogOnItsShip() {
        Document.terms("without a move it is on its ship.");
        QuayMesh quay = Yard.withBoxes(8);
        Check.same("whereByLog(6)", quay.whereByLog(6), 6);
        quay.lose(1, 1, true);
        quay.send(LIFT, 6, 0, 1);
        quay.deliver(1);
        Check.same("whereIs(6)", quay.whereIs(6), 106);
        Check.same("whereByLog(6), unheard", quay.whereByLog(6), 6);
        Yard.lift(quay, 0, 0);
        Check.same("whereByLog(6), another box lifted", quay.whereByLog(6), 6);
        Check.same("whereByLog(0)", quay.whereByLog(0), 100);
    }
}
