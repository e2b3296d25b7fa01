import java.util.ArrayList;

/**
 * A container port whose cranes, trucks and gates are told what to do by a
 * broker that loses and repeats messages. The document ../shared/DOC.md says
 * what each call promises.
 *
 * <p>Where a box is stands in the box alone: what is on the apron, on a truck
 * or in a stack is counted from the boxes, so that no two rows can disagree.
 */
public final class QuayMesh {
    public static final int NONE = -1;
    public static final int LIFT = 0, CARRY = 1, FETCH = 2;
    public static final int EMPTY = 0, LOST = 1, SILENT = 2, NOT_YET = 3, ACKNOWLEDGED = 4, UNHEARD = 5, SEEN = 6, TAKEN = 7;
    public static final int SHIP = 0, APRON = 1, TRUCK = 2, STACK = 3, GONE = 4;

    private static final int PLACES = 16;
    private static final int LONGEST_SHIP = 8;
    private static final int MOST_SHIPS = 10;
    private static final int MOST_BOXES = 24;
    private static final int MOST_MESSAGES = 80;
    private static final int CRANES = 4;
    private static final int TRUCKS = 4;
    private static final int WORKERS = CRANES + TRUCKS;
    private static final int PLACES_BETWEEN_CRANES = 5;
    private static final int STACKS = 6;
    private static final int LEVELS = 4;
    private static final int GATES = 2;
    private static final int SLOTS = 2;
    private static final int MOST_LOSSES_AT_ONCE = 9;
    private static final int HOURS_AHEAD = 24;
    private static final int MOST_HOURS_AT_ONCE = 48;
    private static final int LAST_HOUR = 5000;

    private final ArrayList<Ship> allShips = new ArrayList<>();
    private final ArrayList<Box> allBoxes = new ArrayList<>();
    private final ArrayList<Message> allMessages = new ArrayList<>();
    private final ArrayList<Message> log = new ArrayList<>();
    private final ArrayList<Crane> cranes = new ArrayList<>();
    private final ArrayList<Truck> trucks = new ArrayList<>();
    private int now = 0;
    private int movesMade = 0;

    public QuayMesh() {
        for (int i = 0; i < CRANES; i++) {
            cranes.add(new Crane(i, i * PLACES_BETWEEN_CRANES));
        }
        for (int i = 0; i < TRUCKS; i++) {
            trucks.add(new Truck(CRANES + i));
        }
    }

    // ---- ships and boxes

    public int berth(int place, int length) throws IndexOutOfBoundsException, IllegalArgumentException, IllegalStateException {
        requireOneOf(place, PLACES);
        if (length < 1 || length > LONGEST_SHIP || place + length > PLACES) {
            throw new IllegalArgumentException("the length is out of range");
        }
        if (allShips.size() >= MOST_SHIPS || isTaken(place, place + length)) {
            throw new IllegalStateException("there is no berth for the ship");
        }
        allShips.add(new Ship(place, place + length));
        return allShips.size() - 1;
    }

    public int box(int ship, int place) throws IndexOutOfBoundsException, IllegalArgumentException, IllegalStateException {
        Ship carrier = shipNumbered(ship);
        if (place < carrier.begin || place >= carrier.end) {
            throw new IllegalArgumentException("the ship does not lie at the place");
        }
        if (allBoxes.size() >= MOST_BOXES) {
            throw new IllegalStateException("there are all the boxes that there can be");
        }
        allBoxes.add(new Box(carrier, place));
        return allBoxes.size() - 1;
    }

    public int leave(int ship) throws IndexOutOfBoundsException, IllegalStateException {
        Ship leaving = shipNumbered(ship);
        int lifted = 0;
        for (int i = 0; i < allBoxes.size(); i++) {
            Box each = allBoxes.get(i);
            if (each.ship == leaving) {
                if (each.where == SHIP) {
                    throw new IllegalStateException("a box is on the ship");
                }
                lifted++;
            }
        }
        leaving.hasLeft = true;
        return lifted;
    }

    private boolean isTaken(int begin, int end) {
        for (int i = 0; i < allShips.size(); i++) {
            Ship each = allShips.get(i);
            if (!each.hasLeft && each.begin < end && begin < each.end) {
                return true;
            }
        }
        return false;
    }

    // ---- the broker

    public int send(int kind, int box, int target, int worker) throws IllegalArgumentException, IndexOutOfBoundsException, IllegalStateException {
        if (kind < LIFT || kind > FETCH) {
            throw new IllegalArgumentException("there is no such kind");
        }
        Box named = boxNumbered(box);
        requireOneOf(target, targetsOf(kind));
        if (worker != NONE && !isFor(kind, worker)) {
            throw new IndexOutOfBoundsException("the worker is no such one");
        }
        Worker receiver = worker == NONE ? leastBusyFor(kind) : workerNumbered(worker);
        if (allMessages.size() >= MOST_MESSAGES || receiver == null) {
            throw new IllegalStateException("there are all messages that there can be, or all cranes are silent");
        }
        Message sent = new Message(allMessages.size(), kind, named, target);
        allMessages.add(sent);
        receiver.waiting.add(sent);
        return sent.number;
    }

    public int deliver(int worker) throws IndexOutOfBoundsException {
        Worker receiver = workerNumbered(worker);
        if (receiver.waiting.isEmpty()) {
            return EMPTY;
        }
        Message first = receiver.waiting.get(0);
        first.timesHanded++;
        int outcome = handOver(receiver, first);
        if (outcome != ACKNOWLEDGED) {
            receiver.putLast(first);
        }
        return outcome;
    }

    public int act(int truck) throws IndexOutOfBoundsException {
        Truck acting = truckNumbered(truck);
        Message message = acting.lastSeen;
        if (message == null) {
            return EMPTY;
        }
        if (isNothingToDo(message)) {
            return finish(acting, message);
        }
        if (message.box.isAt(TRUCK, truck)) {
            if (!canPutDown(message)) {
                return NOT_YET;
            }
            putDown(message);
            return finish(acting, message);
        }
        if (!canTake(truck, message.box)) {
            return NOT_YET;
        }
        message.box.bring(TRUCK, truck);
        return TAKEN;
    }

    public int lose(int worker, int many, boolean ofAcks) throws IndexOutOfBoundsException, IllegalArgumentException {
        Worker unlucky = workerNumbered(worker);
        if (many < 1 || many > MOST_LOSSES_AT_ONCE) {
            throw new IllegalArgumentException("so many cannot be lost at once");
        }
        if (ofAcks) {
            unlucky.lossesOfAcks += many;
            return unlucky.lossesOfAcks;
        }
        unlucky.lossesOfMessages += many;
        return unlucky.lossesOfMessages;
    }

    public int repeat(int worker) throws IndexOutOfBoundsException, IllegalStateException {
        Worker receiver = workerNumbered(worker);
        Message again = receiver.lastAcknowledged;
        if (again == null || isInAQueue(again)) {
            throw new IllegalStateException("there is no message to repeat");
        }
        receiver.waiting.add(again);
        return again.number;
    }

    public boolean silence(int crane, boolean isSilent) throws IndexOutOfBoundsException {
        Crane named = craneNumbered(crane);
        boolean was = named.isSilent;
        named.isSilent = isSilent;
        return was;
    }

    public int giveAway(int crane, int other) throws IndexOutOfBoundsException, IllegalStateException {
        Crane giver = craneNumbered(crane);
        Crane taker = craneNumbered(other);
        if (!giver.isSilent || giver == taker) {
            throw new IllegalStateException("only a silent crane's messages are given, and to another one");
        }
        int given = giver.waiting.size();
        for (int i = 0; i < given; i++) {
            taker.waiting.add(giver.waiting.get(i));
        }
        giver.waiting.clear();
        return given;
    }

    public int park(int crane, int place) throws IndexOutOfBoundsException, IllegalStateException {
        Crane parking = craneNumbered(crane);
        requireOneOf(place, PLACES);
        if (parking.isSilent || !canGo(crane, place)) {
            throw new IllegalStateException("the crane is silent, or cannot go there");
        }
        int before = parking.place;
        parking.place = place;
        return before;
    }

    private static int targetsOf(int kind) {
        if (kind == LIFT) {
            return 1;
        }
        return kind == CARRY ? STACKS : GATES;
    }

    private static boolean isFor(int kind, int worker) {
        if (kind == LIFT) {
            return worker >= 0 && worker < CRANES;
        }
        return worker >= CRANES && worker < WORKERS;
    }

    private Worker leastBusyFor(int kind) {
        Worker best = null;
        for (int i = 0; i < WORKERS; i++) {
            Worker each = workerNumbered(i);
            if (isFor(kind, i) && !each.isSilent && (best == null || each.waiting.size() < best.waiting.size())) {
                best = each;
            }
        }
        return best;
    }

    private boolean isInAQueue(Message message) {
        for (int i = 0; i < WORKERS; i++) {
            if (indexOf(message, workerNumbered(i).waiting) != NONE) {
                return true;
            }
        }
        return false;
    }

    private int handOver(Worker receiver, Message message) {
        if (receiver.lossesOfMessages > 0) {
            receiver.lossesOfMessages--;
            return LOST;
        }
        if (receiver.isSilent) {
            return SILENT;
        }
        if (indexOf(message, receiver.remembered) != NONE) {
            return acknowledge(receiver, message);
        }
        if (receiver.number < CRANES) {
            return lift(craneNumbered(receiver.number), message);
        }
        truckNumbered(receiver.number).lastSeen = message;
        return SEEN;
    }

    private int lift(Crane crane, Message message) {
        Box box = message.box;
        if (box.where != SHIP) {
            return acknowledge(crane, message);
        }
        if (!canGo(crane.number, box.place) || countAt(APRON, box.place) > 0) {
            return NOT_YET;
        }
        crane.place = box.place;
        box.bring(APRON, box.place);
        box.lifter = crane.number;
        noteMove(message);
        crane.remembered.add(message);
        return acknowledge(crane, message);
    }

    private boolean canGo(int crane, int place) {
        boolean isAboveLower = crane < 1 || craneNumbered(crane - 1).place < place;
        boolean isBelowHigher = crane > CRANES - 2 || craneNumbered(crane + 1).place > place;
        return isAboveLower && isBelowHigher;
    }

    private static boolean isNothingToDo(Message message) {
        Box box = message.box;
        return box.where == GONE || message.kind == CARRY && box.isAt(STACK, message.target);
    }

    private boolean canTake(int truck, Box box) {
        boolean isWithinReach = box.where == APRON || box.where == STACK && isUppermost(box);
        return isWithinReach && countAt(TRUCK, truck) == 0;
    }

    private boolean isUppermost(Box box) {
        return box.level == countAt(STACK, box.spot) - 1;
    }

    private boolean canPutDown(Message message) {
        if (message.kind == CARRY) {
            return countAt(STACK, message.target) < LEVELS;
        }
        return message.box.isBookedAt(message.target, now);
    }

    private void putDown(Message message) {
        Box box = message.box;
        if (message.kind == CARRY) {
            box.level = countAt(STACK, message.target);
            box.bring(STACK, message.target);
        } else {
            box.bring(GONE, message.target);
            box.dropBooking();
        }
        noteMove(message);
    }

    private void noteMove(Message message) {
        message.orderMade = movesMade;
        movesMade++;
    }

    // A truck remembers also that there was nothing to do: a repeat of such a
    // message must not move the box once it stands elsewhere.
    private int finish(Truck truck, Message message) {
        truck.remembered.add(message);
        truck.lastSeen = null;
        return acknowledge(truck, message);
    }

    private int acknowledge(Worker worker, Message message) {
        if (worker.lossesOfAcks > 0) {
            worker.lossesOfAcks--;
            return UNHEARD;
        }
        worker.takeOut(message);
        worker.lastAcknowledged = message;
        // The move may be another worker's, whose own acknowledgement was lost.
        if (message.isMoveMade() && !message.isLogged) {
            message.isLogged = true;
            log.add(message);
        }
        return ACKNOWLEDGED;
    }

    // ---- gates

    public int book(int gate, int hour, int box) throws IndexOutOfBoundsException, IllegalArgumentException, IllegalStateException {
        requireOneOf(gate, GATES);
        Box named = boxNumbered(box);
        if (hour < now || hour > now + HOURS_AHEAD) {
            throw new IllegalArgumentException("the hour is out of range");
        }
        int left = slotsLeft(gate, hour);
        if (named.where != STACK || named.isBooked() || left < 1 || !canComeOut(named, hour)) {
            throw new IllegalStateException("the box cannot be booked");
        }
        named.bookedGate = gate;
        named.bookedHour = hour;
        return left - 1;
    }

    public int unbook(int box) throws IndexOutOfBoundsException, IllegalStateException {
        Box named = boxNumbered(box);
        if (!named.isBooked()) {
            throw new IllegalStateException("the box is not booked");
        }
        int freed = named.bookedHour;
        named.dropBooking();
        return freed;
    }

    public int advance(int hours) throws IllegalArgumentException, IllegalStateException {
        if (hours < 1 || hours > MOST_HOURS_AT_ONCE) {
            throw new IllegalArgumentException("the hours are out of range");
        }
        if (now + hours > LAST_HOUR) {
            throw new IllegalStateException("the hours end there");
        }
        now += hours;
        int missed = 0;
        for (int i = 0; i < allBoxes.size(); i++) {
            Box each = allBoxes.get(i);
            if (each.isBooked() && each.bookedHour < now) {
                each.dropBooking();
                missed++;
            }
        }
        return missed;
    }

    private int slotsLeft(int gate, int hour) {
        int left = SLOTS;
        for (int i = 0; i < allBoxes.size(); i++) {
            if (allBoxes.get(i).isBookedAt(gate, hour)) {
                left--;
            }
        }
        return left;
    }

    // Whoever stands above must have come out before this one, and this one
    // before whoever stands below.
    private boolean canComeOut(Box box, int hour) {
        for (int i = 0; i < allBoxes.size(); i++) {
            Box each = allBoxes.get(i);
            if (each.isAt(STACK, box.spot)) {
                if (each.level > box.level && (!each.isBooked() || each.bookedHour > hour)) {
                    return false;
                }
                if (each.level < box.level && each.isBooked() && each.bookedHour < hour) {
                    return false;
                }
            }
        }
        return true;
    }

    // ---- what there is

    public int hour() {
        return now;
    }

    public int boxes() {
        return allBoxes.size();
    }

    public int whereIs(int box) throws IndexOutOfBoundsException {
        Box named = boxNumbered(box);
        if (named.where == STACK) {
            return 100 * STACK + 10 * named.spot + named.level;
        }
        return 100 * named.where + named.spot;
    }

    public int whereByLog(int box) throws IndexOutOfBoundsException {
        Box named = boxNumbered(box);
        Message last = lastLoggedMoveOf(named);
        if (last == null) {
            return 100 * SHIP + named.place;
        }
        if (last.kind == LIFT) {
            return 100 * APRON + named.place;
        }
        return last.kind == CARRY ? 100 * STACK + 10 * last.target : 100 * GONE + last.target;
    }

    public int liftedBy(int box) throws IndexOutOfBoundsException {
        return boxNumbered(box).lifter;
    }

    public int bookedFor(int box) throws IndexOutOfBoundsException {
        return boxNumbered(box).bookedHour;
    }

    public int placeOf(int crane) throws IndexOutOfBoundsException {
        return craneNumbered(crane).place;
    }

    public int height(int stack) throws IndexOutOfBoundsException {
        requireOneOf(stack, STACKS);
        return countAt(STACK, stack);
    }

    public int queue(int worker) throws IndexOutOfBoundsException {
        return workerNumbered(worker).waiting.size();
    }

    public int queued(int worker, int k) throws IndexOutOfBoundsException {
        return elementOf(workerNumbered(worker).waiting, k).number;
    }

    public int seen(int truck) throws IndexOutOfBoundsException {
        Message last = truckNumbered(truck).lastSeen;
        return last == null ? NONE : last.number;
    }

    public int handed(int message) throws IndexOutOfBoundsException {
        return elementOf(allMessages, message).timesHanded;
    }

    public boolean isDone(int message) throws IndexOutOfBoundsException {
        return elementOf(allMessages, message).isMoveMade();
    }

    public int moves() {
        return log.size();
    }

    public int moveAt(int move) throws IndexOutOfBoundsException {
        return elementOf(log, move).number;
    }

    public int unheard() {
        return movesMade - log.size();
    }

    // A move may come into the log long after a later one of the same box, so
    // the order in which they were made counts, not that of the log.
    private Message lastLoggedMoveOf(Box box) {
        Message last = null;
        for (int i = 0; i < log.size(); i++) {
            Message each = log.get(i);
            if (each.box == box && (last == null || each.orderMade > last.orderMade)) {
                last = each;
            }
        }
        return last;
    }

    private int countAt(int where, int spot) {
        int found = 0;
        for (int i = 0; i < allBoxes.size(); i++) {
            if (allBoxes.get(i).isAt(where, spot)) {
                found++;
            }
        }
        return found;
    }

    private static int indexOf(Message message, ArrayList<Message> list) {
        for (int i = 0; i < list.size(); i++) {
            if (list.get(i) == message) {
                return i;
            }
        }
        return NONE;
    }

    private static void requireOneOf(int number, int many) {
        if (number < 0 || number >= many) {
            throw new IndexOutOfBoundsException("there is no such one");
        }
    }

    private static Message elementOf(ArrayList<Message> list, int k) {
        requireOneOf(k, list.size());
        return list.get(k);
    }

    private Ship shipNumbered(int ship) {
        requireOneOf(ship, allShips.size());
        Ship named = allShips.get(ship);
        if (named.hasLeft) {
            throw new IndexOutOfBoundsException("the ship has left");
        }
        return named;
    }

    private Box boxNumbered(int box) {
        requireOneOf(box, allBoxes.size());
        return allBoxes.get(box);
    }

    private Crane craneNumbered(int crane) {
        requireOneOf(crane, cranes.size());
        return cranes.get(crane);
    }

    private Truck truckNumbered(int truck) {
        if (truck < CRANES || truck - CRANES >= trucks.size()) {
            throw new IndexOutOfBoundsException("there is no such truck");
        }
        return trucks.get(truck - CRANES);
    }

    private Worker workerNumbered(int worker) {
        return worker < CRANES ? craneNumbered(worker) : truckNumbered(worker);
    }

    private static final class Ship {
        final int begin;
        final int end;
        boolean hasLeft = false;

        Ship(int begin, int end) {
            this.begin = begin;
            this.end = end;
        }
    }

    private static final class Box {
        final Ship ship;
        final int place;
        int where = SHIP;
        /** The place, the truck, the stack or the gate, as {@link #where} says. */
        int spot;
        /** Means something in a stack only. */
        int level = 0;
        int lifter = NONE;
        int bookedGate = NONE;
        int bookedHour = NONE;

        Box(Ship ship, int place) {
            this.ship = ship;
            this.place = place;
            this.spot = place;
        }

        void bring(int newWhere, int newSpot) {
            where = newWhere;
            spot = newSpot;
        }

        boolean isAt(int someWhere, int someSpot) {
            return where == someWhere && spot == someSpot;
        }

        boolean isBooked() {
            return bookedHour != NONE;
        }

        boolean isBookedAt(int gate, int hour) {
            return bookedGate == gate && bookedHour == hour;
        }

        void dropBooking() {
            bookedGate = NONE;
            bookedHour = NONE;
        }
    }

    private static final class Message {
        final int number;
        final int kind;
        final Box box;
        final int target;
        int timesHanded = 0;
        /** Which of all moves its own was, NONE while none was made for it. */
        int orderMade = NONE;
        boolean isLogged = false;

        Message(int number, int kind, Box box, int target) {
            this.number = number;
            this.kind = kind;
            this.box = box;
            this.target = target;
        }

        boolean isMoveMade() {
            return orderMade != NONE;
        }
    }

    private abstract static class Worker {
        final int number;
        final ArrayList<Message> waiting = new ArrayList<>();
        final ArrayList<Message> remembered = new ArrayList<>();
        int lossesOfMessages = 0;
        int lossesOfAcks = 0;
        boolean isSilent = false;
        Message lastAcknowledged = null;

        Worker(int number) {
            this.number = number;
        }

        void takeOut(Message message) {
            int at = indexOf(message, waiting);
            if (at != NONE) {
                waiting.remove(at);
            }
        }

        void putLast(Message message) {
            takeOut(message);
            waiting.add(message);
        }
    }

    private static final class Crane extends Worker {
        int place;

        Crane(int number, int place) {
            super(number);
            this.place = place;
        }
    }

    private static final class Truck extends Worker {
        Message lastSeen = null;

        Truck(int number) {
            super(number);
        }
    }
}
