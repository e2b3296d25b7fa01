/** Quays for the tests, brought by calls to where a test begins. */
final class Yard {
    private Yard() {
    }

    /** Two ships, on places 0 to 7 and 8 to 15, and a box on each of the first places. */
    static QuayMesh withBoxes(int many) {
        QuayMesh quay = new QuayMesh();
        quay.berth(0, 8);
        quay.berth(8, 8);
        for (int place = 0; place < many; place++) {
            quay.box(place / 8, place);
        }
        return quay;
    }

    /** The boxes are on the apron, lifted by crane 0, the other cranes on 13, 14 and 15; 12 boxes at most. */
    static QuayMesh withBoxesOnApron(int many) {
        QuayMesh quay = withBoxes(many);
        quay.park(2, 14);
        quay.park(1, 13);
        for (int box = 0; box < many; box++) {
            lift(quay, box, 0);
        }
        return quay;
    }

    /** The boxes are in stack 0, the first one lowest, brought there by truck 4. */
    static QuayMesh withBoxesInStack(int many) {
        QuayMesh quay = withBoxesOnApron(many);
        for (int box = 0; box < many; box++) {
            carry(quay, box, 0, 4);
        }
        return quay;
    }

    /** One box in each of the first stacks, brought there by truck 4; 6 at most. */
    static QuayMesh withABoxInEach(int manyStacks) {
        QuayMesh quay = withBoxesOnApron(manyStacks);
        for (int stack = 0; stack < manyStacks; stack++) {
            carry(quay, stack, stack, 4);
        }
        return quay;
    }

    /** All 24 boxes, off ship 0, four in each stack: box 0 at the bottom of stack 0, box 23 on top of stack 5. */
    static QuayMesh withFullStacks() {
        QuayMesh quay = withBoxesOnApron(0);
        for (int box = 0; box < 24; box++) {
            quay.box(0, box % 8);
            lift(quay, box, 0);
            carry(quay, box, box / 4, 4);
        }
        return quay;
    }

    /** Ten ships have come and left. */
    static QuayMesh withTenShipsGone() {
        QuayMesh quay = new QuayMesh();
        for (int ship = 0; ship < 10; ship++) {
            quay.berth(ship, 1);
            quay.leave(ship);
        }
        return quay;
    }

    /** A box on ship 0, and all 80 messages, LIFTs of it, in the queue of crane 1. */
    static QuayMesh withMostMessages() {
        QuayMesh quay = withBoxes(1);
        for (int message = 0; message < 80; message++) {
            quay.send(QuayMesh.LIFT, 0, 0, 1);
        }
        return quay;
    }

    /** A box on ship 0, and all cranes silent. */
    static QuayMesh withSilentCranes() {
        QuayMesh quay = withBoxes(1);
        for (int crane = 0; crane < 4; crane++) {
            quay.silence(crane, true);
        }
        return quay;
    }

    /** The hour is the last one, 5000. */
    static void advanceToTheEnd(QuayMesh quay) {
        while (quay.hour() < 5000) {
            quay.advance(Math.min(48, 5000 - quay.hour()));
        }
    }

    static void lift(QuayMesh quay, int box, int crane) {
        quay.send(QuayMesh.LIFT, box, 0, crane);
        due(quay.deliver(crane), QuayMesh.ACKNOWLEDGED);
    }

    static void carry(QuayMesh quay, int box, int stack, int truck) {
        quay.send(QuayMesh.CARRY, box, stack, truck);
        bring(quay, truck);
    }

    static void fetch(QuayMesh quay, int box, int gate, int truck) {
        quay.send(QuayMesh.FETCH, box, gate, truck);
        bring(quay, truck);
    }

    private static void bring(QuayMesh quay, int truck) {
        due(quay.deliver(truck), QuayMesh.SEEN);
        due(quay.act(truck), QuayMesh.TAKEN);
        due(quay.act(truck), QuayMesh.ACKNOWLEDGED);
    }

    private static void due(int got, int due) {
        Check.same("a call that brings the yard to where a test begins", got, due);
    }
}
