/** "Terms", from the first sentence to the cranes on their rail. */
final class TermsOfTheQuay {
    private TermsOfTheQuay() {
    }

    /** The apron is free again, and the other crane could go there: it must not lift all the same. */
    private static void termsNoBoxIsLiftedByTwoCranes() {
        Document.terms("No box is lifted by two cranes, whatever the broker does.");
        QuayMesh quay = Yard.withBoxes(8);
        quay.lose(1, 2, true);
        quay.send(QuayMesh.LIFT, 6, 0, 1);
        quay.send(QuayMesh.LIFT, 6, 0, 2);
        Check.same("deliver(1), unheard", quay.deliver(1), QuayMesh.UNHEARD);
        Yard.carry(quay, 6, 0, 4);
        quay.park(1, 5);
        quay.silence(1, true);
        quay.giveAway(1, 2);
        Check.same("deliver(2) of its own", quay.deliver(2), QuayMesh.ACKNOWLEDGED);
        Check.same("deliver(2) of the given one", quay.deliver(2), QuayMesh.ACKNOWLEDGED);
        Check.same("repeat(2)", quay.repeat(2), 0);
        Check.same("deliver(2) of the repeated one", quay.deliver(2), QuayMesh.ACKNOWLEDGED);
        Check.same("liftedBy(6)", quay.liftedBy(6), 1);
        Check.same("placeOf(2), which has not gone", quay.placeOf(2), 10);
        Check.same("whereIs(6)", quay.whereIs(6), 300);
        Check.same("isDone of the other LIFT", quay.isDone(1), false);
        Check.same("moves()", quay.moves(), 2);
    }

    /** Boxes in all kinds of places, messages in queues and seen, losses due, a crane silent, a slot booked. */
    private static QuayMesh busy() {
        QuayMesh quay = Yard.withBoxesInStack(4);
        quay.advance(2);
        quay.book(0, 3, 3);
        for (int place = 4; place < 8; place++) {
            quay.box(0, place);
        }
        Yard.lift(quay, 4, 0);
        quay.lose(0, 2, true);
        quay.lose(5, 1, false);
        quay.send(QuayMesh.LIFT, 5, 0, 0);
        quay.deliver(0);
        quay.send(QuayMesh.CARRY, 4, 1, 6);
        quay.deliver(6);
        quay.act(6);
        quay.send(QuayMesh.FETCH, 3, 0, 5);
        quay.send(QuayMesh.LIFT, 6, 0, 2);
        quay.silence(2, true);
        return quay;
    }

    /** All calls that throw, one upon the other. */
    private static void termsACallThatThrowsChangesNothing() {
        Document.terms("A call that throws an exception changes nothing");
        QuayMesh quay = busy();
        Check.noIndex("berth(16, 1)", quay, () -> quay.berth(16, 1));
        Check.noArgument("berth(15, 2)", quay, () -> quay.berth(15, 2));
        Check.noState("berth(7, 2)", quay, () -> quay.berth(7, 2));
        Check.noIndex("box(2, 0)", quay, () -> quay.box(2, 0));
        Check.noArgument("box(0, 8)", quay, () -> quay.box(0, 8));
        Check.noIndex("leave(2)", quay, () -> quay.leave(2));
        Check.noState("leave(0)", quay, () -> quay.leave(0));
        Check.noArgument("send(3, ..)", quay, () -> quay.send(3, 0, 0, 0));
        Check.noIndex("send of no box", quay, () -> quay.send(QuayMesh.CARRY, 8, 0, 4));
        Check.noIndex("deliver(8)", quay, () -> quay.deliver(8));
        Check.noIndex("act(3)", quay, () -> quay.act(3));
        Check.noIndex("lose(8, 1, true)", quay, () -> quay.lose(8, 1, true));
        Check.noArgument("lose(0, 10, true)", quay, () -> quay.lose(0, 10, true));
        Check.noIndex("repeat(-1)", quay, () -> quay.repeat(-1));
        Check.noState("repeat(1)", quay, () -> quay.repeat(1));
        Check.noIndex("silence(4, true)", quay, () -> quay.silence(4, true));
        Check.noIndex("giveAway(2, 4)", quay, () -> quay.giveAway(2, 4));
        Check.noState("giveAway(0, 1)", quay, () -> quay.giveAway(0, 1));
        Check.noState("giveAway(2, 2)", quay, () -> quay.giveAway(2, 2));
        Check.noIndex("park(0, 16)", quay, () -> quay.park(0, 16));
        Check.noState("park(2, 13)", quay, () -> quay.park(2, 13));
        Check.noState("park(0, 15)", quay, () -> quay.park(0, 15));
        Check.noIndex("book(2, 3, 2)", quay, () -> quay.book(2, 3, 2));
        Check.noArgument("book(0, 1, 2)", quay, () -> quay.book(0, 1, 2));
        Check.noState("book(0, 2, 2)", quay, () -> quay.book(0, 2, 2));
        Check.noIndex("unbook(8)", quay, () -> quay.unbook(8));
        Check.noState("unbook(2)", quay, () -> quay.unbook(2));
        Check.noArgument("advance(49)", quay, () -> quay.advance(49));
        Check.that("something changed", Probe.of(busy()).equals(Probe.of(quay)));
    }

    private static void termsACallThatThrowsAtALimitChangesNothing() {
        Refused.withState("an eleventh ship", Yard::withTenShipsGone, quay -> quay.berth(0, 1));
        Refused.withState("a twenty-fifth box", Yard::withFullStacks, quay -> quay.box(0, 0));
        Refused.withState("an eighty-first message", Yard::withMostMessages, quay -> quay.send(QuayMesh.LIFT, 0, 0, 1));
        Refused.withState("a LIFT to NONE", Yard::withSilentCranes, quay -> quay.send(QuayMesh.LIFT, 0, 0, QuayMesh.NONE));
    }

    /** Of send the argument's exception is the first one; of the others that of the index is. */
    private static void termsTheFirstNamedIsThrown() {
        Document.terms("if several exceptions apply, the one that its @throws lines name first is thrown.");
        Refused.withArgument("send", TermsOfTheQuay::busy, quay -> quay.send(-1, 8, 6, 8));
        Refused.withIndex("berth", TermsOfTheQuay::busy, quay -> quay.berth(-1, 9));
        Refused.withIndex("box", Yard::withFullStacks, quay -> quay.box(2, 16));
        Refused.withIndex("lose", TermsOfTheQuay::busy, quay -> quay.lose(8, 10, true));
        Refused.withIndex("giveAway", TermsOfTheQuay::busy, quay -> quay.giveAway(0, 4));
        Refused.withIndex("park", TermsOfTheQuay::busy, quay -> quay.park(2, 16));
        Refused.withIndex("book", TermsOfTheQuay::busy, quay -> quay.book(2, 1, 3));
        Refused.withArgument("book", TermsOfTheQuay::busy, quay -> quay.book(0, 27, 3));
    }

    private static void termsPlaces() {
        Document.terms("The quay has the places 0 to 15.");
        QuayMesh quay = new QuayMesh();
        Check.same("berth(0, 1)", quay.berth(0, 1), 0);
        Check.same("berth(15, 1)", quay.berth(15, 1), 1);
        Check.noIndex("berth(-1, 1)", quay, () -> quay.berth(-1, 1));
        Check.noIndex("berth(16, 1)", quay, () -> quay.berth(16, 1));
        Check.noIndex("park(0, -1)", quay, () -> quay.park(0, -1));
        Check.noIndex("park(3, 16)", quay, () -> quay.park(3, 16));
        Check.same("box(0, 0)", quay.box(0, 0), 0);
        Check.same("box(1, 15)", quay.box(1, 15), 1);
        Yard.lift(quay, 0, 0);
        Yard.lift(quay, 1, 3);
        Check.same("whereIs(0)", quay.whereIs(0), 100);
        Check.same("whereIs(1)", quay.whereIs(1), 115);
    }

    private static void termsWorkers() {
        Document.terms("There are the workers 0 to 7:");
        QuayMesh quay = new QuayMesh();
        Check.same("queue(0)", quay.queue(0), 0);
        Check.same("queue(7)", quay.queue(7), 0);
        Check.noIndex("queue(-1)", quay, () -> quay.queue(-1));
        Check.noIndex("queue(8)", quay, () -> quay.queue(8));
    }

    private static void termsCranes() {
        Document.terms("the cranes 0 to 3");
        QuayMesh quay = new QuayMesh();
        Check.same("placeOf(0)", quay.placeOf(0), 0);
        Check.same("placeOf(3)", quay.placeOf(3), 15);
        Check.noIndex("placeOf(-1)", quay, () -> quay.placeOf(-1));
        Check.noIndex("placeOf(4)", quay, () -> quay.placeOf(4));
        Check.noIndex("silence(4, false)", quay, () -> quay.silence(4, false));
    }

    private static void termsTrucks() {
        Document.terms("and the trucks 4 to 7");
        QuayMesh quay = new QuayMesh();
        Check.same("act(4)", quay.act(4), QuayMesh.EMPTY);
        Check.same("act(7)", quay.act(7), QuayMesh.EMPTY);
        Check.noIndex("act(3)", quay, () -> quay.act(3));
        Check.noIndex("act(8)", quay, () -> quay.act(8));
    }

    private static void termsStacks() {
        Document.terms("the stacks 0 to 5");
        QuayMesh quay = Yard.withABoxInEach(6);
        Check.same("whereIs(0)", quay.whereIs(0), 300);
        Check.same("whereIs(5)", quay.whereIs(5), 350);
        Check.noIndex("CARRY to 6", quay, () -> quay.send(QuayMesh.CARRY, 0, 6, 4));
        Check.noIndex("height(6)", quay, () -> quay.height(6));
        Check.noIndex("height(-1)", quay, () -> quay.height(-1));
    }

    private static void termsGates() {
        Document.terms("and the gates 0 and 1.");
        QuayMesh quay = Yard.withABoxInEach(2);
        Check.same("book(0, 0, 0)", quay.book(0, 0, 0), 1);
        Check.same("book(1, 0, 1)", quay.book(1, 0, 1), 1);
        Check.noIndex("FETCH to 2", quay, () -> quay.send(QuayMesh.FETCH, 0, 2, 4));
        Check.noIndex("book(2, 0, 0)", quay, () -> quay.book(2, 0, 0));
        Check.noIndex("book(-1, 0, 0)", quay, () -> quay.book(-1, 0, 0));
    }

    private static void termsHours() {
        Document.terms("Hours are numbered from 0.");
        QuayMesh quay = Yard.withABoxInEach(1);
        Check.same("hour()", quay.hour(), 0);
        Check.noArgument("book(0, -1, 0)", quay, () -> quay.book(0, -1, 0));
        Check.same("book(0, 0, 0)", quay.book(0, 0, 0), 1);
    }

    private static void termsShipsFrom0() {
        Document.terms("Ships are numbered from 0");
        QuayMesh quay = new QuayMesh();
        Check.same("berth(15, 1)", quay.berth(15, 1), 0);
        Check.same("berth(0, 1)", quay.berth(0, 1), 1);
        Check.noIndex("leave(-1)", quay, () -> quay.leave(-1));
    }

    private static void termsTenShips() {
        Document.terms("there can be 10, those that left counted.");
        QuayMesh quay = new QuayMesh();
        for (int ship = 0; ship < 9; ship++) {
            quay.berth(ship, 1);
        }
        quay.leave(3);
        Check.same("berth(3, 1), the tenth", quay.berth(3, 1), 9);
        quay.leave(9);
        Check.noState("berth(3, 1), the eleventh", quay, () -> quay.berth(3, 1));
    }

    private static void termsShipsLieBesideOneAnother() {
        Document.terms("A ship lies at some places, one behind the other, at which no other ship lies.");
        QuayMesh quay = new QuayMesh();
        quay.berth(3, 4);
        Check.noState("berth(0, 4), on its first place", quay, () -> quay.berth(0, 4));
        Check.noState("berth(6, 4), on its last place", quay, () -> quay.berth(6, 4));
        Check.noState("berth(4, 1), between them", quay, () -> quay.berth(4, 1));
        Check.noState("berth(2, 6), round it", quay, () -> quay.berth(2, 6));
        Check.same("berth(0, 3)", quay.berth(0, 3), 1);
        Check.same("berth(7, 4)", quay.berth(7, 4), 2);
    }

    private static void termsBoxesFrom0() {
        Document.terms("Boxes are numbered from 0");
        QuayMesh quay = Yard.withBoxes(0);
        Check.same("box(1, 15)", quay.box(1, 15), 0);
        Check.same("box(0, 0)", quay.box(0, 0), 1);
        Check.noIndex("whereIs(-1)", quay, () -> quay.whereIs(-1));
    }

    private static void termsTwentyFourBoxes() {
        Document.terms("there can be 24.");
        QuayMesh quay = Yard.withBoxes(16);
        for (int box = 16; box < 24; box++) {
            Check.same("box(1, 15)", quay.box(1, 15), box);
        }
        Check.noState("box(1, 15), the twenty-fifth", quay, () -> quay.box(1, 15));
        Check.same("boxes()", quay.boxes(), 24);
    }

    /** Of a place of a ship the document does not say that it has room for one box. */
    private static void termsBoxesOnAShip() {
        Document.terms("A box is on a ship, at one of its places");
        QuayMesh quay = new QuayMesh();
        quay.berth(4, 2);
        for (int box = 0; box < 24; box++) {
            Check.same("box " + box, quay.box(0, 4 + box % 2), box);
            Check.same("whereIs(" + box + ")", quay.whereIs(box), 4 + box % 2);
        }
        QuayMesh beside = Yard.withBoxes(0);
        Check.noArgument("box(0, 8)", beside, () -> beside.box(0, 8));
        Check.noArgument("box(1, 7)", beside, () -> beside.box(1, 7));
    }

    private static void termsBoxesOnTheApron() {
        Document.terms("or on the apron at a place, which has room for one box");
        QuayMesh quay = new QuayMesh();
        quay.berth(0, 2);
        quay.box(0, 0);
        quay.box(0, 0);
        quay.box(0, 1);
        Yard.lift(quay, 0, 0);
        quay.send(QuayMesh.LIFT, 1, 0, 0);
        Check.same("deliver(0), a box there", quay.deliver(0), QuayMesh.NOT_YET);
        Check.same("whereIs(1)", quay.whereIs(1), 0);
        Yard.carry(quay, 0, 0, 4);
        Check.same("deliver(0), room there", quay.deliver(0), QuayMesh.ACKNOWLEDGED);
        Check.same("whereIs(1)", quay.whereIs(1), 100);
        Yard.lift(quay, 2, 0);
        Check.same("whereIs(2), beside it", quay.whereIs(2), 101);
    }

    private static void termsBoxesOnATruck() {
        Document.terms("or on a truck, which has room for one");
        QuayMesh quay = Yard.withBoxesOnApron(2);
        quay.send(QuayMesh.CARRY, 0, 0, 4);
        quay.send(QuayMesh.CARRY, 1, 0, 4);
        quay.deliver(4);
        Check.same("act(4)", quay.act(4), QuayMesh.TAKEN);
        quay.deliver(4);
        Check.same("act(4), a box on it", quay.act(4), QuayMesh.NOT_YET);
        Check.same("whereIs(1)", quay.whereIs(1), 101);
        quay.deliver(4);
        Check.same("act(4), by which it is put down", quay.act(4), QuayMesh.ACKNOWLEDGED);
        quay.deliver(4);
        Check.same("act(4), room on it", quay.act(4), QuayMesh.TAKEN);
        Check.same("whereIs(1)", quay.whereIs(1), 204);
    }

    private static void termsBoxesInAStack() {
        Document.terms("or in a stack, at a level from 0, which has room for 4, one above the other");
        QuayMesh quay = Yard.withBoxesOnApron(5);
        for (int level = 0; level < 4; level++) {
            Yard.carry(quay, level, 3, 4);
            Check.same("whereIs(" + level + ")", quay.whereIs(level), 330 + level);
            Check.same("height(3)", quay.height(3), level + 1);
        }
        quay.send(QuayMesh.CARRY, 4, 3, 4);
        quay.deliver(4);
        Check.same("act(4), which takes the fifth", quay.act(4), QuayMesh.TAKEN);
        Check.same("act(4), the stack full", quay.act(4), QuayMesh.NOT_YET);
        Yard.carry(quay, 3, 2, 5);
        Check.same("act(4), room for one", quay.act(4), QuayMesh.ACKNOWLEDGED);
        Check.same("whereIs(4)", quay.whereIs(4), 333);
    }

    /** What has left stands nowhere, and never comes back. */
    private static void termsBoxesThatLeft() {
        Document.terms("or it has left by a gate.");
        QuayMesh quay = Yard.withBoxesInStack(4);
        quay.book(1, 0, 3);
        Yard.fetch(quay, 3, 1, 4);
        Check.same("whereIs(3)", quay.whereIs(3), 401);
        Check.same("height(0), room for one", quay.height(0), 3);
        quay.send(QuayMesh.CARRY, 3, 0, 4);
        quay.deliver(4);
        Check.same("act(4)", quay.act(4), QuayMesh.ACKNOWLEDGED);
        Check.same("whereIs(3)", quay.whereIs(3), 401);
        Check.same("height(0)", quay.height(0), 3);
        quay.box(0, 7);
        Yard.lift(quay, 4, 0);
        Yard.carry(quay, 4, 0, 4);
        Check.same("whereIs(4), where the other one was", quay.whereIs(4), 303);
    }

    private static void termsCranesAtFirst() {
        Document.terms("Cranes stand on the places 0, 5, 10 and 15 at first");
        QuayMesh quay = new QuayMesh();
        Check.same("placeOf(0)", quay.placeOf(0), 0);
        Check.same("placeOf(1)", quay.placeOf(1), 5);
        Check.same("placeOf(2)", quay.placeOf(2), 10);
        Check.same("placeOf(3)", quay.placeOf(3), 15);
    }

    /** Whether it parks or lifts, each crane is sent to each place from each side; none ever comes up to another. */
    private static void termsCranesDoNotCross() {
        Document.terms("the cranes with lower numbers always stand on lower places.");
        QuayMesh quay = Yard.withBoxes(16);
        for (int i = 0; i < 128; i++) {
            int crane = i % 4;
            int place = i * 7 % 16;
            if (i % 3 == 0 && i < 120) {
                quay.send(QuayMesh.LIFT, place, 0, crane);
                quay.deliver(crane);
            } else {
                parkOrNot(quay, crane, place);
            }
            for (int lower = 0; lower < 3; lower++) {
                Check.that("cranes crossed", quay.placeOf(lower) < quay.placeOf(lower + 1));
            }
        }
    }

    private static void parkOrNot(QuayMesh quay, int crane, int place) {
        try {
            quay.park(crane, place);
        } catch (IllegalStateException e) {
            Check.that("it was no refusal of the program", Check.isThrownByProgram(e));
        }
    }

    private static void termsACraneCanGoUpToTheNextLowerOne() {
        Document.terms("A crane can go to a place if the crane with the next lower number stands on a lower one");
        for (int crane = 1; crane < 4; crane++) {
            QuayMesh quay = new QuayMesh();
            int each = crane;
            int lower = 5 * crane - 5;
            Check.noState("park of " + crane + " below it", quay, () -> quay.park(each, Math.max(0, lower - 1)));
            Check.noState("park of " + crane + " on its place", quay, () -> quay.park(each, lower));
            Check.same("park of " + crane + " right above it", quay.park(crane, lower + 1), 5 * crane);
        }
        QuayMesh lowest = new QuayMesh();
        lowest.park(0, 4);
        Check.same("park(0, 0), below which is no crane", lowest.park(0, 0), 4);
    }

    private static void termsACraneCanGoUpToTheNextHigherOne() {
        Document.terms("and that with the next higher number on a higher one.");
        for (int crane = 0; crane < 3; crane++) {
            QuayMesh quay = new QuayMesh();
            int each = crane;
            int higher = 5 * crane + 5;
            Check.noState("park of " + crane + " above it", quay, () -> quay.park(each, Math.min(15, higher + 1)));
            Check.noState("park of " + crane + " on its place", quay, () -> quay.park(each, higher));
            Check.same("park of " + crane + " right below it", quay.park(crane, higher - 1), 5 * crane);
        }
        QuayMesh highest = new QuayMesh();
        highest.park(3, 11);
        Check.same("park(3, 15), above which is no crane", highest.park(3, 15), 11);
    }
}
