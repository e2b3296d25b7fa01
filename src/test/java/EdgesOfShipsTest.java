/** Promises 1 to 4, sentence by sentence: what is just allowed, and what just not. */
public final class EdgesOfShipsTest {
    private static final int LEAST = Integer.MIN_VALUE;
    private static final int MOST = Integer.MAX_VALUE;

    private EdgesOfShipsTest() {
    }

    public static void main(String[] args) {
        Tests.runAll(EdgesOfShipsTest.class);
        Document.requirePromises(1, 4);
        Check.end();
    }

    // ---- a new object

    private static void promise1NoShips() {
        Document.promise(1, "No ships");
        Refused.withIndex("leave(0)", QuayMesh::new, quay -> quay.leave(0));
        Refused.withIndex("box(0, 0)", QuayMesh::new, quay -> quay.box(0, 0));
        for (int place = 0; place < 16; place++) {
            QuayMesh quay = new QuayMesh();
            Check.same("berth(" + place + ", 1), the first ship", quay.berth(place, 1), 0);
        }
    }

    private static void promise1NoBoxes() {
        Document.promise(1, "boxes");
        QuayMesh quay = new QuayMesh();
        Check.same("boxes()", quay.boxes(), 0);
        for (int stack = 0; stack < 6; stack++) {
            Check.same("height(" + stack + ")", quay.height(stack), 0);
        }
        Refused.withIndex("whereIs(0)", QuayMesh::new, each -> each.whereIs(0));
        quay.berth(0, 1);
        Check.same("box(0, 0), the first box", quay.box(0, 0), 0);
    }

    private static void promise1NoMessages() {
        Document.promise(1, "messages");
        QuayMesh quay = new QuayMesh();
        for (int worker = 0; worker < 8; worker++) {
            Check.same("queue(" + worker + ")", quay.queue(worker), 0);
        }
        Check.same("moves()", quay.moves(), 0);
        Check.same("unheard()", quay.unheard(), 0);
        Refused.withIndex("handed(0)", QuayMesh::new, each -> each.handed(0));
        Refused.withIndex("isDone(0)", QuayMesh::new, each -> each.isDone(0));
        quay.berth(0, 1);
        quay.box(0, 0);
        Check.same("the first message", quay.send(QuayMesh.LIFT, 0, 0, 0), 0);
    }

    private static void promise1Hour() {
        Document.promise(1, "the hour 0");
        Check.same("hour()", new QuayMesh().hour(), 0);
    }

    /** Two objects have nothing in common. */
    private static void promise1ObjectsAreOnTheirOwn() {
        QuayMesh first = Yard.withBoxesInStack(2);
        first.advance(3);
        QuayMesh second = new QuayMesh();
        Check.that("the first object shows in a second one", Probe.of(second).equals(Probe.of(new QuayMesh())));
        Check.same("hour() of the first one", first.hour(), 3);
        Check.same("boxes() of the first one", first.boxes(), 2);
    }

    /** An object is used for 512 calls: the last of them must be answered like the first. */
    private static void promise1UsedFor512Calls() {
        QuayMesh quay = new QuayMesh();
        quay.berth(0, 1);
        quay.box(0, 0);
        for (int message = 0; message < 79; message++) {
            quay.send(QuayMesh.LIFT, 0, 0, 1);
        }
        for (int call = 81; call < 509; call++) {
            Check.same("call " + (call + 1) + ", deliver(1)", quay.deliver(1), QuayMesh.NOT_YET);
        }
        Check.same("call 510, send", quay.send(QuayMesh.LIFT, 0, 0, 0), 79);
        Check.same("call 511, deliver(0)", quay.deliver(0), QuayMesh.ACKNOWLEDGED);
        Check.same("call 512, moveAt(0)", quay.moveAt(0), 79);
    }

    // ---- berth

    private static void promise2Place() {
        Document.promise(2, "`place`: 0 to 15: the first place");
        QuayMesh quay = new QuayMesh();
        Check.same("berth(0, 1)", quay.berth(0, 1), 0);
        Check.same("berth(15, 1)", quay.berth(15, 1), 1);
        Refused.withIndex("berth(-1, 1)", QuayMesh::new, each -> each.berth(-1, 1));
        Refused.withIndex("berth(16, 1)", QuayMesh::new, each -> each.berth(16, 1));
    }

    private static void promise2Length() {
        Document.promise(2, "`length`: 1 to 8, so that it ends at the place 15 at the latest");
        for (int place = 0; place < 16; place++) {
            int from = place;
            int longest = Math.min(8, 16 - place);
            String call = "berth(" + place + ", ";
            Check.same(call + "1)", new QuayMesh().berth(place, 1), 0);
            Check.same(call + longest + ")", new QuayMesh().berth(place, longest), 0);
            Refused.withArgument(call + "0)", QuayMesh::new, quay -> quay.berth(from, 0));
            Refused.withArgument(call + (longest + 1) + ")", QuayMesh::new, quay -> quay.berth(from, longest + 1));
        }
    }

    /** The ship lies at all the places that its length says, and at no other one. */
    private static void promise2LengthIsWhereItLies() {
        QuayMesh quay = new QuayMesh();
        quay.berth(4, 3);
        Check.same("box at the first place", quay.box(0, 4), 0);
        Check.same("box at the last place", quay.box(0, 6), 1);
        Check.noArgument("box before the first place", quay, () -> quay.box(0, 3));
        Check.noArgument("box behind the last place", quay, () -> quay.box(0, 7));
        Check.same("berth of another right before it", quay.berth(0, 4), 1);
        Check.same("berth of another right behind it", quay.berth(7, 8), 2);
    }

    private static void promise2Returns() {
        Document.promise(2, "Returns its number.");
        QuayMesh quay = new QuayMesh();
        for (int ship = 0; ship < 10; ship++) {
            Check.same("berth of ship " + ship, quay.berth(15 - ship, 1), ship);
        }
    }

    private static void promise2ThrowsNoSuchPlace() {
        Document.promise(2, "Throws `IndexOutOfBoundsException` if there is no such place");
        for (int place : new int[] {LEAST, -2, -1, 16, 17, MOST}) {
            Refused.withIndex("berth(" + place + ", 1)", QuayMesh::new, quay -> quay.berth(place, 1));
        }
    }

    private static void promise2ThrowsLength() {
        Document.promise(2, "Throws `IllegalArgumentException` if length is out of range");
        for (int length : new int[] {LEAST, -1, 0, 9, 16, MOST}) {
            Refused.withArgument("berth(0, " + length + ")", QuayMesh::new, quay -> quay.berth(0, length));
        }
        for (int length : new int[] {LEAST, 0, 2, MOST - 15, MOST}) {
            Refused.withArgument("berth(15, " + length + ")", QuayMesh::new, quay -> quay.berth(15, length));
        }
    }

    /** Each berth beside a ship on the places 6 to 9: those that touch none of its places are free. */
    private static void promise2ThrowsAnotherShip() {
        Document.promise(2, "Throws `IllegalStateException` if another ship lies at one of the places");
        for (int place = 0; place < 16; place++) {
            for (int length = 1; length <= Math.min(8, 16 - place); length++) {
                QuayMesh quay = new QuayMesh();
                quay.berth(6, 4);
                int first = place;
                int many = length;
                String call = "berth(" + place + ", " + length + ")";
                if (place + length <= 6 || place >= 10) {
                    Check.same(call, quay.berth(place, length), 1);
                } else {
                    Check.noState(call, quay, () -> quay.berth(first, many));
                }
            }
        }
    }

    private static void promise2ThrowsNoMoreOfAShipThatLeft() {
        QuayMesh quay = new QuayMesh();
        quay.berth(6, 4);
        Check.noState("berth(6, 4) where a ship lies", quay, () -> quay.berth(6, 4));
        quay.leave(0);
        Check.same("berth(6, 4) where it has left", quay.berth(6, 4), 1);
    }

    private static void promise2ThrowsTenShips() {
        Document.promise(2, "or there were 10");
        QuayMesh side = new QuayMesh();
        QuayMesh gone = new QuayMesh();
        for (int ship = 0; ship < 10; ship++) {
            Check.same("berth of ship " + ship + " beside the others", side.berth(ship, 1), ship);
            Check.same("berth of ship " + ship + ", the others gone", gone.berth(0, 8), ship);
            gone.leave(ship);
        }
        Check.noState("berth(10, 1) of an eleventh ship", side, () -> side.berth(10, 1));
        Check.noState("berth(0, 8) of an eleventh ship, all others gone", gone, () -> gone.berth(0, 8));
    }

    private static void promise2FirstNamedIsThrown() {
        Refused.withIndex("berth(16, 0), both out of range", QuayMesh::new, quay -> quay.berth(16, 0));
        Refused.withIndex("berth(-1, 9), both out of range", QuayMesh::new, quay -> quay.berth(-1, 9));
        Refused.withIndex("berth(16, 1), an eleventh ship", Yard::withTenShipsGone, quay -> quay.berth(16, 1));
        Refused.withIndex("berth(-1, 2), where a ship lies at 0", () -> Yard.withBoxes(0), quay -> quay.berth(-1, 2));
        Refused.withArgument("berth(0, 9), where a ship lies", () -> Yard.withBoxes(0), quay -> quay.berth(0, 9));
        Refused.withArgument("berth(15, 2), where a ship lies", () -> Yard.withBoxes(0), quay -> quay.berth(15, 2));
        Refused.withArgument("berth(0, 0), an eleventh ship", Yard::withTenShipsGone, quay -> quay.berth(0, 0));
        Refused.withIndex("berth(16, 0), an eleventh ship", Yard::withTenShipsGone, quay -> quay.berth(16, 0));
    }

    private static void promise2AfterARefusal() {
        QuayMesh quay = new QuayMesh();
        quay.berth(4, 4);
        Check.noIndex("berth(16, 1)", quay, () -> quay.berth(16, 1));
        Check.noArgument("berth(12, 5)", quay, () -> quay.berth(12, 5));
        Check.noState("berth(2, 3)", quay, () -> quay.berth(2, 3));
        Check.noIndex("box on the ship that was refused", quay, () -> quay.box(1, 2));
        Check.same("berth(2, 2), where the refused one would lie", quay.berth(2, 2), 1);
        Check.same("berth(12, 4), where the other one would lie", quay.berth(12, 4), 2);
        Check.same("box on the ship that lay there before", quay.box(0, 4), 0);
    }

    // ---- box

    private static void promise3Ship() {
        Document.promise(3, "`ship`: a ship that has not left");
        QuayMesh quay = new QuayMesh();
        for (int ship = 0; ship < 10; ship++) {
            quay.berth(ship, 1);
        }
        quay.leave(4);
        Check.same("box on the first ship", quay.box(0, 0), 0);
        Check.same("box on the last ship", quay.box(9, 9), 1);
        Check.noIndex("box on a ship -1", quay, () -> quay.box(-1, 0));
        Check.noIndex("box on a ship 10", quay, () -> quay.box(10, 10));
        Check.noIndex("box on a ship that has left", quay, () -> quay.box(4, 4));
        Check.same("box on the next ship", quay.box(5, 5), 2);
    }

    private static void promise3Place() {
        Document.promise(3, "`place`: one of its places");
        QuayMesh quay = new QuayMesh();
        quay.berth(0, 3);
        quay.berth(3, 5);
        quay.berth(15, 1);
        Check.same("box at the quay's first place", quay.box(0, 0), 0);
        Check.same("box at the ship's last place", quay.box(0, 2), 1);
        Check.same("box at the next ship's first place", quay.box(1, 3), 2);
        Check.same("box at the next ship's last place", quay.box(1, 7), 3);
        Check.same("box at the quay's last place", quay.box(2, 15), 4);
        Check.noArgument("box before the quay", quay, () -> quay.box(0, -1));
        Check.noArgument("box at the next ship's first place", quay, () -> quay.box(0, 3));
        Check.noArgument("box at the other ship's last place", quay, () -> quay.box(1, 2));
        Check.noArgument("box behind the ship", quay, () -> quay.box(1, 8));
        Check.noArgument("box before the ship", quay, () -> quay.box(2, 14));
        Check.noArgument("box behind the quay", quay, () -> quay.box(2, 16));
    }

    private static void promise3Returns() {
        Document.promise(3, "Returns its number.");
        QuayMesh quay = Yard.withBoxes(0);
        for (int box = 0; box < 24; box++) {
            Check.same("box on ship " + box % 2, quay.box(box % 2, box % 2 * 8), box);
            Check.same("boxes()", quay.boxes(), box + 1);
        }
    }

    private static void promise3ThrowsNoSuchShip() {
        Document.promise(3, "Throws `IndexOutOfBoundsException` if there is no such ship");
        for (int ship : new int[] {LEAST, -1, 2, 9, 10, MOST}) {
            Refused.withIndex("box(" + ship + ", 0)", () -> Yard.withBoxes(0), quay -> quay.box(ship, 0));
        }
        Refused.withIndex("box(0, 0), that ship gone", Yard::withTenShipsGone, quay -> quay.box(0, 0));
        Refused.withIndex("box(9, 9), that ship gone", Yard::withTenShipsGone, quay -> quay.box(9, 9));
        Refused.withIndex("box(10, 9)", Yard::withTenShipsGone, quay -> quay.box(10, 9));
    }

    private static void promise3ThrowsBesideTheShip() {
        Document.promise(3, "Throws `IllegalArgumentException` if it does not lie at the place");
        for (int place : new int[] {LEAST, -1, 8, 15, 16, MOST}) {
            Refused.withArgument("box(0, " + place + ")", () -> Yard.withBoxes(0), quay -> quay.box(0, place));
        }
        for (int place : new int[] {LEAST, -1, 0, 7, 16, MOST}) {
            Refused.withArgument("box(1, " + place + ")", () -> Yard.withBoxes(0), quay -> quay.box(1, place));
        }
    }

    private static void promise3ThrowsTwentyFourBoxes() {
        Document.promise(3, "Throws `IllegalStateException` if there are 24 boxes");
        QuayMesh onShip = Yard.withBoxes(16);
        for (int box = 16; box < 24; box++) {
            Check.same("box " + box, onShip.box(0, 0), box);
        }
        Check.noState("a twenty-fifth box", onShip, () -> onShip.box(0, 0));
        QuayMesh inStacks = Yard.withFullStacks();
        Check.noState("a twenty-fifth box, all others in stacks", inStacks, () -> inStacks.box(0, 0));
        inStacks.book(0, 0, 23);
        Yard.fetch(inStacks, 23, 0, 4);
        Check.noState("a twenty-fifth box, one of the others gone", inStacks, () -> inStacks.box(0, 0));
    }

    private static void promise3FirstNamedIsThrown() {
        Refused.withIndex("box(2, 16), neither", () -> Yard.withBoxes(0), quay -> quay.box(2, 16));
        Refused.withIndex("box(-1, -1), neither", () -> Yard.withBoxes(0), quay -> quay.box(-1, -1));
        Refused.withIndex("box(2, 0), a twenty-fifth", Yard::withFullStacks, quay -> quay.box(2, 0));
        Refused.withArgument("box(0, 8), a twenty-fifth", Yard::withFullStacks, quay -> quay.box(0, 8));
        Refused.withIndex("box(2, 16), a twenty-fifth", Yard::withFullStacks, quay -> quay.box(2, 16));
        Refused.withIndex("box(0, 99), that ship gone", Yard::withTenShipsGone, quay -> quay.box(0, 99));
    }

    private static void promise3AfterARefusal() {
        QuayMesh quay = Yard.withBoxes(2);
        Check.noIndex("box(2, 0)", quay, () -> quay.box(2, 0));
        Check.noArgument("box(1, 7)", quay, () -> quay.box(1, 7));
        Check.same("boxes()", quay.boxes(), 2);
        Check.same("leave(1), on which the refused one would be", quay.leave(1), 0);
        Check.same("box(0, 7), the next number", quay.box(0, 7), 2);
        Check.same("whereIs(2)", quay.whereIs(2), 7);
        QuayMesh full = Yard.withFullStacks();
        Check.noState("box(0, 0)", full, () -> full.box(0, 0));
        Check.same("boxes()", full.boxes(), 24);
        Check.same("leave(0), on which the refused one would be", full.leave(0), 24);
    }

    // ---- leave

    private static void promise4Ship() {
        Document.promise(4, "`ship`: a ship that has not left");
        QuayMesh quay = new QuayMesh();
        for (int ship = 0; ship < 10; ship++) {
            quay.berth(ship, 1);
        }
        Check.same("leave(0), the first one", quay.leave(0), 0);
        Check.same("leave(9), the last one", quay.leave(9), 0);
        Check.noIndex("leave(-1)", quay, () -> quay.leave(-1));
        Check.noIndex("leave(10)", quay, () -> quay.leave(10));
        Check.noIndex("leave(0) again", quay, () -> quay.leave(0));
        Check.noIndex("leave(9) again", quay, () -> quay.leave(9));
        Check.same("leave(1)", quay.leave(1), 0);
    }

    private static void promise4Returns() {
        Document.promise(4, "Returns how many boxes were lifted from it.");
        Check.same("leave(0), none lifted", Yard.withBoxes(0).leave(0), 0);
        Check.same("leave(0), one lifted", Yard.withBoxesOnApron(1).leave(0), 1);
        Check.same("leave(0), all 24 lifted", Yard.withFullStacks().leave(0), 24);
        Check.same("leave(1) beside it", Yard.withFullStacks().leave(1), 0);
    }

    private static void promise4ReturnsWhereverTheyAre() {
        QuayMesh quay = Yard.withBoxesInStack(2);
        quay.book(0, 0, 1);
        Yard.fetch(quay, 1, 0, 4);
        quay.box(0, 5);
        Yard.lift(quay, 2, 0);
        quay.send(QuayMesh.CARRY, 2, 1, 4);
        quay.deliver(4);
        quay.act(4);
        quay.box(0, 6);
        quay.lose(0, 1, true);
        quay.send(QuayMesh.LIFT, 3, 0, 0);
        Check.same("deliver(0)", quay.deliver(0), QuayMesh.UNHEARD);
        Check.same("leave(0): in a stack, gone, on a truck, and lifted unheard", quay.leave(0), 4);
    }

    /** Boxes of a ship that lay there before are not counted. */
    private static void promise4ReturnsOfThisShipAlone() {
        QuayMesh quay = Yard.withBoxesOnApron(3);
        quay.leave(0);
        quay.berth(0, 8);
        quay.box(2, 7);
        Yard.lift(quay, 3, 0);
        Check.same("leave(2)", quay.leave(2), 1);
    }

    private static void promise4ThrowsNoSuchShip() {
        Document.promise(4, "Throws `IndexOutOfBoundsException` if there is no such ship");
        for (int ship : new int[] {LEAST, -1, 2, 10, MOST}) {
            Refused.withIndex("leave(" + ship + ")", () -> Yard.withBoxes(0), quay -> quay.leave(ship));
        }
        for (int ship : new int[] {-1, 0, 9, 10}) {
            Refused.withIndex("leave(" + ship + "), all gone", Yard::withTenShipsGone, quay -> quay.leave(ship));
        }
    }

    private static void promise4ThrowsABoxOnIt() {
        Document.promise(4, "Throws `IllegalStateException` if a box is on it");
        Refused.withState("leave(0), one box on it", () -> Yard.withBoxes(1), quay -> quay.leave(0));
        QuayMesh quay = Yard.withBoxesOnApron(3);
        quay.box(0, 7);
        Check.noState("leave(0), its last box on it, the others lifted", quay, () -> quay.leave(0));
        Yard.lift(quay, 3, 0);
        Check.same("leave(0), that one lifted too", quay.leave(0), 4);
    }

    private static void promise4ThrowsAFirstBoxOnIt() {
        QuayMesh quay = Yard.withBoxes(2);
        Yard.lift(quay, 1, 0);
        Check.noState("leave(0), its first box on it, the last one lifted", quay, () -> quay.leave(0));
    }

    /** No ship is missing and has a box on it; of a ship with a box beside a missing one each throws its own. */
    private static void promise4FirstNamedIsThrown() {
        Refused.withIndex("leave(2), boxes on the others", () -> Yard.withBoxes(16), quay -> quay.leave(2));
        Refused.withIndex("leave(-1), boxes on the others", () -> Yard.withBoxes(16), quay -> quay.leave(-1));
        Refused.withState("leave(1)", () -> Yard.withBoxes(16), quay -> quay.leave(1));
    }

    private static void promise4AfterARefusal() {
        QuayMesh quay = Yard.withBoxes(2);
        Check.noState("leave(0)", quay, () -> quay.leave(0));
        Check.noIndex("leave(2)", quay, () -> quay.leave(2));
        Check.noState("berth(0, 1), where it still lies", quay, () -> quay.berth(0, 1));
        Check.same("box(0, 0), on the ship that stayed", quay.box(0, 0), 2);
        Check.same("whereIs(0)", quay.whereIs(0), 0);
        Check.same("leave(1)", quay.leave(1), 0);
        Check.same("berth(8, 8), the next number", quay.berth(8, 8), 2);
    }
}
