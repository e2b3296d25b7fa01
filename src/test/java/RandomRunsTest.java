import java.util.Arrays;

/**
 * Long runs of calls drawn by a fixed rule, wrong inputs among them. After each
 * call the rules of the document that hold for every quay are looked at, and a
 * twin, which is spared the calls that threw, must answer alike.
 */
public final class RandomRunsTest {
    private static final int RUNS = 400;
    private static final int CALLS = 512;
    private static final long THREW = Long.MIN_VALUE;

    private long random;
    private long startOfArguments;

    private RandomRunsTest(long seed) {
        random = seed;
    }

    public static void main(String[] args) {
        for (int seed = 1; seed <= RUNS; seed++) {
            new RandomRunsTest(seed).run();
        }
        Check.end();
    }

    private void run() {
        QuayMesh quay = Yard.withBoxes(draw(3) * 5);
        QuayMesh twin = Yard.withBoxes(quay.boxes());
        int[] lifters = new int[24];
        Arrays.fill(lifters, QuayMesh.NONE);
        for (int call = 0; call < CALLS; call++) {
            int which = drawCall();
            String before = Snapshot.of(quay);
            long answer = answer(quay, which);
            String after = Snapshot.of(quay);
            if (answer == THREW) {
                Check.that("call " + which + " threw and changed something", before.equals(after));
            } else {
                Check.same("call " + which + " of the twin", answer(twin, which), answer);
                Check.that("the twin is another one after call " + which, Snapshot.of(twin).equals(after));
            }
            rulesOfTheRail(quay);
            rulesOfBoxes(quay, lifters);
            rulesOfMessages(quay);
            rulesOfTheLog(quay);
        }
    }

    private int draw(int many) {
        random = random * 6364136223846793005L + 1442695040888963407L;
        return (int) Long.remainderUnsigned(random >>> 33, many);
    }

    /** Mostly within the range, now and then a little or far outside. */
    private int drawAround(int many) {
        int luck = draw(40);
        if (luck == 0) {
            return draw(2) == 0 ? -1 : many;
        }
        if (luck == 1) {
            int[] far = {Integer.MIN_VALUE, Integer.MAX_VALUE, -2, 100};
            return far[draw(far.length)];
        }
        return many <= 0 ? 0 : draw(many);
    }

    private int drawCall() {
        int[] weights = {1, 3, 1, 8, 20, 24, 1, 2, 2, 2, 4, 4, 1, 1};
        int total = 0;
        for (int weight : weights) {
            total += weight;
        }
        int left = draw(total);
        int which = 0;
        while (left >= weights[which]) {
            left -= weights[which];
            which++;
        }
        startOfArguments = random;
        return which;
    }

    /** Draws the call's arguments from the same start each time, so that the twin gets the same ones. */
    private long answer(QuayMesh quay, int which) {
        random = startOfArguments;
        try {
            return which < 7 ? answerOfFirst(quay, which) : answerOfSecond(quay, which);
        } catch (RuntimeException e) {
            Check.that("call " + which + " threw " + e, Check.isThrownByProgram(e));
            return THREW;
        }
    }

    private long answerOfFirst(QuayMesh quay, int which) {
        switch (which) {
            case 0:
                return quay.berth(drawAround(16), drawAround(9));
            case 1:
                return quay.box(drawAround(3), drawAround(16));
            case 2:
                return quay.leave(drawAround(10));
            case 3:
                return drawSend(quay);
            case 4:
                return quay.deliver(drawReceiver(quay));
            case 5:
                return quay.act(draw(40) == 0 ? drawAround(9) : 4 + draw(4));
            default:
                return quay.lose(drawAround(8), 1 + draw(20) / 19 * drawAround(10), draw(3) > 0);
        }
    }

    private long answerOfSecond(QuayMesh quay, int which) {
        switch (which) {
            case 7:
                return quay.repeat(drawAround(8));
            case 8:
                return quay.silence(drawAround(4), draw(4) == 0) ? 1 : 0;
            case 9:
                return quay.giveAway(drawAround(4), drawAround(4));
            case 10:
                return quay.park(drawAround(4), drawAround(16));
            case 11:
                return quay.book(drawAround(2), quay.hour() + drawAround(3), drawBox(quay, QuayMesh.STACK));
            case 12:
                return quay.unbook(drawAround(quay.boxes()));
            default:
                return quay.advance(1 + draw(2) * drawAround(3));
        }
    }

    /** Mostly not a truck that has seen a message, so that it comes to act on that. */
    private int drawReceiver(QuayMesh quay) {
        int worker = drawAround(8);
        boolean isTruck = worker >= 4 && worker < 8;
        return isTruck && quay.seen(worker) != QuayMesh.NONE && draw(8) > 0 ? draw(4) : worker;
    }

    private long drawSend(QuayMesh quay) {
        int luck = draw(12);
        if (luck < 4) {
            return quay.send(QuayMesh.LIFT, drawBox(quay, QuayMesh.SHIP), drawAround(1), drawAround(5) - 1);
        }
        int worker = draw(4) == 0 ? QuayMesh.NONE : draw(40) == 0 ? drawAround(4) : 4 + draw(4);
        if (luck < 9) {
            int box = drawBox(quay, draw(4) > 0 ? QuayMesh.APRON : QuayMesh.STACK);
            return quay.send(QuayMesh.CARRY, box, draw(3) == 0 ? drawAround(6) : draw(2), worker);
        }
        int kind = luck < 11 ? QuayMesh.FETCH : drawAround(3);
        return quay.send(kind, drawBookedBox(quay), drawAround(2), worker);
    }

    private int drawBookedBox(QuayMesh quay) {
        for (int box = 0; box < quay.boxes(); box++) {
            if (quay.bookedFor(box) == quay.hour() && draw(3) > 0) {
                return box;
            }
        }
        return drawBox(quay, QuayMesh.STACK);
    }

    /** Mostly a box that is where the call wants it, if there is one. */
    private int drawBox(QuayMesh quay, int where) {
        int first = drawAround(quay.boxes());
        if (first < 0 || first >= quay.boxes() || draw(5) == 0) {
            return first;
        }
        for (int i = 0; i < quay.boxes(); i++) {
            int box = (first + i) % quay.boxes();
            if (quay.whereIs(box) / 100 == where) {
                return box;
            }
        }
        return first;
    }

    private static void rulesOfTheRail(QuayMesh quay) {
        for (int crane = 0; crane < 3; crane++) {
            Check.that("cranes cross at " + crane, quay.placeOf(crane) < quay.placeOf(crane + 1));
        }
        Check.that("a crane has left the rail", quay.placeOf(0) >= 0 && quay.placeOf(3) <= 15);
    }

    private static void rulesOfBoxes(QuayMesh quay, int[] lifters) {
        boolean[] taken = new boolean[500];
        int[] heights = new int[6];
        for (int box = 0; box < quay.boxes(); box++) {
            int where = quay.whereIs(box);
            int kind = where / 100;
            if (kind == QuayMesh.APRON || kind == QuayMesh.TRUCK || kind == QuayMesh.STACK) {
                Check.that("two boxes are at " + where, !taken[where]);
                taken[where] = true;
            }
            if (kind == QuayMesh.STACK) {
                heights[where % 100 / 10]++;
            }
            Check.same("whether a crane has lifted box " + box, quay.liftedBy(box) == QuayMesh.NONE, kind == QuayMesh.SHIP);
            Check.that("box " + box + " was lifted twice", lifters[box] == QuayMesh.NONE || lifters[box] == quay.liftedBy(box));
            lifters[box] = quay.liftedBy(box);
            int booked = quay.bookedFor(box);
            boolean isBooked = booked != QuayMesh.NONE;
            Check.that("box " + box + " is booked for " + booked, !isBooked || booked >= quay.hour() && booked <= quay.hour() + 24);
            Check.that("box " + box + " is booked at " + where, !isBooked || kind == QuayMesh.TRUCK || kind == QuayMesh.STACK);
        }
        for (int stack = 0; stack < 6; stack++) {
            Check.same("height(" + stack + ")", quay.height(stack), heights[stack]);
            Check.that("stack " + stack + " is too high", heights[stack] <= 4);
            for (int level = 0; level < heights[stack]; level++) {
                Check.that("no box is at a level under others", taken[300 + 10 * stack + level]);
            }
        }
    }

    private static void rulesOfMessages(QuayMesh quay) {
        boolean[] isQueued = new boolean[80];
        for (int worker = 0; worker < 8; worker++) {
            for (int k = 0; k < quay.queue(worker); k++) {
                int message = quay.queued(worker, k);
                Check.that("message " + message + " is in two queues", !isQueued[message]);
                isQueued[message] = true;
            }
        }
        for (int truck = 4; truck < 8; truck++) {
            int seen = quay.seen(truck);
            Check.that("a truck has seen what is in no queue", seen == QuayMesh.NONE || isQueued[seen]);
        }
    }

    private static void rulesOfTheLog(QuayMesh quay) {
        boolean[] isLogged = new boolean[80];
        for (int move = 0; move < quay.moves(); move++) {
            int message = quay.moveAt(move);
            Check.that("message " + message + " is in the log twice", !isLogged[message]);
            isLogged[message] = true;
            Check.that("a move is in the log that was not made", quay.isDone(message));
        }
        int made = 0;
        int messages = Snapshot.messages(quay);
        for (int message = 0; message < messages; message++) {
            made += quay.isDone(message) ? 1 : 0;
        }
        Check.same("unheard()", quay.unheard(), made - quay.moves());
        for (int box = 0; quay.unheard() == 0 && box < quay.boxes(); box++) {
            int where = quay.whereIs(box);
            int due = where / 100 == QuayMesh.STACK ? where - where % 10 : where;
            if (where / 100 != QuayMesh.TRUCK) {
                Check.same("whereByLog(" + box + "), all moves acknowledged", quay.whereByLog(box), due);
            }
        }
    }
}
