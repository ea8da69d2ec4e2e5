import java.util.Arrays;

/** Actors that run small programs in turn, send messages, are linked and are watched over. */
public final class MailYard {
    public static final int BAD = -1;
    public static final int FULL = -2;
    public static final int DEAD = -3;

    private static final int OUTSIDE = 0;
    private static final int NOBODY = 0;
    private static final int NOT_MADE = -1;

    private static final int ROOM_CELLS = 24;
    private static final int MOST_ALIVE = 8;
    private static final int MOST_STEPS = 40;
    private static final int TURN = 5;

    /* Far above need: eight alive, each of which begins at most three anew in one step. */
    private static final int MOST_ENDINGS = 1000;

    private static final int REASON_NO_PARTNER = -1;
    private static final int REASON_NO_SUPERVISOR = -2;
    private static final int REASON_TOO_OFTEN = -3;
    private static final int REASON_NO_INSTRUCTION = -5;

    private final Code code = new Code();
    /* Those alive, by rising ids: an id is never used again, so a new one comes last. */
    private final Line alive = new Line();
    private final Line spare = new Line();
    private final Line ready = new Line();
    private final Line endings = new Line();
    private final Timers clock = new Timers();
    private final Outputs outputs = new Outputs();
    private long now = 0;
    private int freeCells = ROOM_CELLS;
    private int lostMessages = 0;
    private int lastId = 0;

    public MailYard() {
        for (int slot = 0; slot < MOST_ALIVE; slot++) {
            spare.add(new Actor(slot));
        }
    }

    public boolean load(int cell, int op, int a, int b) {
        if (!Code.isCell(cell) || !Code.isInstruction(op, a, b)) {
            return false;
        }
        code.put(cell, op, a, b);
        return true;
    }

    public int spawn(int entry, int argument) {
        if (!Code.isCell(entry)) {
            return BAD;
        }
        if (spare.size < 1) {
            return FULL;
        }
        return beginActor(entry, argument, NOBODY);
    }

    public int inject(int id, int value) {
        Actor actor = alive.find(id);
        if (actor == null) {
            return DEAD;
        }
        if (freeCells < 1) {
            return FULL;
        }
        deliver(actor, OUTSIDE, value);
        return 1;
    }

    public int step() {
        return advance();
    }

    public int run(int n) {
        if (n < 0 || n > MOST_STEPS) {
            return BAD;
        }
        for (int done = 0; done < n; done++) {
            if (advance() == NOBODY) {
                return done;
            }
        }
        return n;
    }

    public int tick() {
        now++;
        int ended = 0;
        for (int n = 0; n < Timers.MOST; n++) {
            // Looked for anew each time: a message that came may have taken a limit away.
            int i = clock.firstEnding(now);
            if (i == Timers.NONE) {
                break;
            }
            ring(i);
            ended++;
        }
        return ended;
    }

    public int status(int id) {
        if (id < 1 || id > lastId) {
            return BAD;
        }
        Actor actor = alive.find(id);
        if (actor == null) {
            return 0;
        }
        return actor.waiting ? 2 : 1;
    }

    public int register(int id, int r) {
        Actor actor = alive.find(id);
        return actor == null || !Code.isRegister(r) ? 0 : actor.registers[r];
    }

    public int place(int id) {
        Actor actor = alive.find(id);
        return actor == null ? DEAD : actor.cell;
    }

    public int mail(int id) {
        Actor actor = alive.find(id);
        return actor == null ? DEAD : actor.mailbox.size;
    }

    public int message(int id, int k) {
        Actor actor = alive.find(id);
        return actor == null ? 0 : actor.mailbox.valueAt(k);
    }

    public boolean linked(int id, int other) {
        Actor one = alive.find(id);
        Actor two = alive.find(other);
        return one != null && two != null && one.isLinkedWith(two);
    }

    public int supervisor(int id) {
        Actor actor = alive.find(id);
        if (actor == null) {
            return DEAD;
        }
        return alive.find(actor.overseer) == null ? NOBODY : actor.overseer;
    }

    public int restarts(int id) {
        Actor actor = alive.find(id);
        return actor == null ? DEAD : actor.begunAnew;
    }

    public int queue(int k) {
        Actor actor = ready.at(k);
        return actor == null ? NOBODY : actor.id;
    }

    public int room() {
        return freeCells;
    }

    public int lost() {
        return lostMessages;
    }

    public int timers() {
        return clock.size;
    }

    public int output(int i) {
        if (i == -1) {
            return outputs.size;
        }
        return outputs.has(i) ? outputs.values[i] : 0;
    }

    public int author(int i) {
        return outputs.has(i) ? outputs.authors[i] : BAD;
    }

    /** Does one step: the id of the actor that did it, NOBODY when none is runnable. */
    private int advance() {
        Actor actor = ready.at(0);
        if (actor == null) {
            return NOBODY;
        }
        int id = actor.id;
        actor.done++;
        perform(actor);
        for (int n = 0; n < MOST_ENDINGS && endings.at(0) != null; n++) {
            settle(endings.at(0));
        }
        // An actor that ended may be in use again as a new one: that one has done nothing yet.
        if (ready.at(0) == actor && actor.done >= TURN) {
            ready.remove(actor);
            makeReady(actor);
        }
        return id;
    }

    private void perform(Actor actor) {
        int cell = actor.cell;
        if (!code.isFilled(cell)) {
            comeToEnd(actor, REASON_NO_INSTRUCTION);
            return;
        }
        int[] registers = actor.registers;
        int a = code.firsts[cell];
        int b = code.seconds[cell];
        actor.cell = cell + 1;
        switch (code.ops[cell]) {
            case Code.SET -> registers[a] = b;
            case Code.ADD -> registers[a] += registers[b];
            case Code.LESS -> actor.cell = registers[a] < registers[b] ? cell + 2 : cell + 1;
            case Code.GOTO -> actor.cell = b;
            case Code.SEND -> sendTo(registers[a], actor.id, registers[b]);
            case Code.TAKE -> takeMessage(actor, a, b);
            case Code.SPAWN -> registers[a] = beginActor(b, registers[a], NOBODY);
            case Code.CHILD -> registers[a] = beginActor(b, registers[a], actor.id);
            case Code.LINK -> makeLink(actor, a);
            case Code.TRAP -> actor.traps = b != 0;
            case Code.STOP -> comeToEnd(actor, registers[a]);
            case Code.PUT -> outputs.add(registers[a], actor.id);
            case Code.SELF -> registers[a] = actor.id;
            case Code.LATER -> clock.add(actor.id, now + b, registers[a], false);
            default -> { }
        }
    }

    private void takeMessage(Actor actor, int a, int b) {
        Mailbox mailbox = actor.mailbox;
        if (mailbox.size > 0) {
            // The value is set last, so that it counts when both go to register 3.
            actor.registers[3] = mailbox.firstSender();
            actor.registers[a] = mailbox.valueAt(0);
            mailbox.removeFirst();
            freeCells++;
            return;
        }
        // It has to take again when a message has come.
        actor.cell--;
        actor.waiting = true;
        ready.remove(actor);
        if (b >= 1) {
            clock.add(actor.id, now + b, 0, true);
        }
    }

    private void makeLink(Actor actor, int a) {
        int partnerId = actor.registers[a];
        Actor partner = alive.find(partnerId);
        if (partner == null) {
            exitReaches(actor, partnerId, REASON_NO_PARTNER);
            return;
        }
        if (partner == actor || actor.isLinkedWith(partner)) {
            return;
        }
        if (freeCells < 1) {
            actor.registers[a] = NOT_MADE;
            return;
        }
        freeCells--;
        actor.setLink(partner, true);
        partner.setLink(actor, true);
    }

    /** Begins an actor: its id, NOT_MADE when there are enough. */
    private int beginActor(int entry, int argument, int overseer) {
        Actor actor = spare.at(0);
        if (actor == null) {
            return NOT_MADE;
        }
        lastId++;
        actor.reset(lastId, entry, argument, overseer);
        spare.remove(actor);
        alive.add(actor);
        makeReady(actor);
        return lastId;
    }

    private void makeReady(Actor actor) {
        actor.waiting = false;
        actor.done = 0;
        ready.add(actor);
    }

    private void sendTo(int id, int sender, int value) {
        Actor target = alive.find(id);
        if (target != null) {
            deliver(target, sender, value);
        }
    }

    private void deliver(Actor target, int sender, int value) {
        if (freeCells < 1) {
            lostMessages++;
            return;
        }
        freeCells--;
        target.mailbox.add(value, sender);
        if (target.waiting) {
            clock.removeAt(clock.limitOf(target.id));
            makeReady(target);
        }
    }

    /** Takes timer i away and does what it is for. */
    private void ring(int i) {
        Actor actor = alive.find(clock.owners[i]);
        int value = clock.values[i];
        boolean isLimit = clock.limits[i];
        clock.removeAt(i);
        if (actor == null) {
            return;
        }
        if (isLimit) {
            actor.cell += 2;
            makeReady(actor);
        } else {
            deliver(actor, actor.id, value);
        }
    }

    private void exitReaches(Actor actor, int from, int reason) {
        if (actor.traps) {
            deliver(actor, from, reason);
        } else if (reason != 0) {
            comeToEnd(actor, reason);
        }
    }

    /** Only the first ending of an actor counts: behind it the actor is not alive. */
    private void comeToEnd(Actor actor, int reason) {
        if (!endings.contains(actor)) {
            actor.reason = reason;
            endings.add(actor);
        }
    }

    /** Deals with one ending; those that it brings up stand behind the others in the line. */
    private void settle(Actor ended) {
        bury(ended);
        for (int i = 0; i < alive.size; i++) {
            Actor other = alive.row[i];
            if (other.isLinkedWith(ended)) {
                // The cell of the link is free by then for the message of the exit.
                dropLink(ended, other);
                exitReaches(other, ended.id, ended.reason);
            }
        }
        for (int i = 0; i < alive.size; i++) {
            Actor child = alive.row[i];
            if (child.overseer == ended.id) {
                comeToEnd(child, REASON_NO_SUPERVISOR);
            }
        }
        if (ended.reason != 0) {
            tellOverseer(ended);
        }
    }

    private void bury(Actor ended) {
        endings.remove(ended);
        alive.remove(ended);
        ready.remove(ended);
        spare.add(ended);
        clock.removeAllOf(ended.id);
        freeCells += ended.mailbox.size;
        ended.mailbox.clear();
    }

    private void dropLink(Actor one, Actor two) {
        one.setLink(two, false);
        two.setLink(one, false);
        freeCells++;
    }

    private void tellOverseer(Actor ended) {
        Actor overseer = alive.find(ended.overseer);
        if (overseer == null) {
            return;
        }
        if (overseer.mayBeginAnew(now)) {
            overseer.noteBegunAnew(now);
            beginActor(ended.entry, ended.argument, ended.overseer);
        } else {
            comeToEnd(overseer, REASON_TOO_OFTEN);
        }
    }

    /** The cells of the code. */
    private static final class Code {
        static final int SET = 0;
        static final int ADD = 1;
        static final int LESS = 2;
        static final int GOTO = 3;
        static final int SEND = 4;
        static final int TAKE = 5;
        static final int SPAWN = 6;
        static final int CHILD = 7;
        static final int LINK = 8;
        static final int TRAP = 9;
        static final int STOP = 10;
        static final int PUT = 11;
        static final int SELF = 12;
        static final int LATER = 13;

        private static final int EMPTY = -1;
        private static final int CELLS = 48;

        final int[] ops = new int[CELLS];
        final int[] firsts = new int[CELLS];
        final int[] seconds = new int[CELLS];

        Code() {
            Arrays.fill(ops, EMPTY);
        }

        static boolean isCell(int cell) {
            return cell >= 0 && cell < CELLS;
        }

        static boolean isRegister(int r) {
            return r >= 0 && r < Actor.REGISTERS;
        }

        static boolean isInstruction(int op, int a, int b) {
            if (op < SET || op > LATER) {
                return false;
            }
            if (op != GOTO && op != TRAP && !isRegister(a)) {
                return false;
            }
            return switch (op) {
                case ADD, LESS, SEND -> isRegister(b);
                case GOTO, SPAWN, CHILD -> isCell(b);
                case LATER -> b >= 1;
                default -> true;
            };
        }

        boolean isFilled(int cell) {
            return isCell(cell) && ops[cell] != EMPTY;
        }

        void put(int cell, int op, int a, int b) {
            ops[cell] = op;
            firsts[cell] = a;
            seconds[cell] = b;
        }
    }

    /** An actor; the object is used again for another one when its actor has ended. */
    private static final class Actor {
        static final int REGISTERS = 4;
        private static final int MOST_BEGUN_ANEW = 3;
        private static final int SPAN = 10;

        final int slot;
        final int[] registers = new int[REGISTERS];
        final Mailbox mailbox = new Mailbox();
        /* The last times at which it began an actor anew, the earliest first. */
        private final long[] timesBegunAnew = new long[MOST_BEGUN_ANEW];
        int id;
        int entry;
        int argument;
        int overseer;
        int cell;
        boolean traps;
        boolean waiting;
        /* Instructions done since it came to the front of the queue. */
        int done;
        int begunAnew;
        int reason;
        /* One bit for the slot of each actor that it is linked with. */
        private int links;

        Actor(int slot) {
            this.slot = slot;
        }

        void reset(int newId, int newEntry, int newArgument, int newOverseer) {
            id = newId;
            entry = newEntry;
            argument = newArgument;
            overseer = newOverseer;
            cell = newEntry;
            traps = false;
            waiting = false;
            done = 0;
            begunAnew = 0;
            reason = 0;
            links = 0;
            Arrays.fill(registers, 0);
            registers[0] = newArgument;
            // As if all had been so long ago that none counts at time 0.
            Arrays.fill(timesBegunAnew, -SPAN);
        }

        boolean isLinkedWith(Actor other) {
            return (links & (1 << other.slot)) != 0;
        }

        void setLink(Actor other, boolean isLinked) {
            int bit = 1 << other.slot;
            links = isLinked ? links | bit : links & ~bit;
        }

        boolean mayBeginAnew(long now) {
            return timesBegunAnew[0] <= now - SPAN;
        }

        void noteBegunAnew(long now) {
            begunAnew++;
            System.arraycopy(timesBegunAnew, 1, timesBegunAnew, 0, MOST_BEGUN_ANEW - 1);
            timesBegunAnew[MOST_BEGUN_ANEW - 1] = now;
        }
    }

    /** Messages of one actor, first in, first out. */
    private static final class Mailbox {
        private final int[] values = new int[ROOM_CELLS];
        private final int[] senders = new int[ROOM_CELLS];
        private int head = 0;
        int size = 0;

        void clear() {
            head = 0;
            size = 0;
        }

        void add(int value, int sender) {
            if (size >= ROOM_CELLS) {
                return;
            }
            int end = (head + size) % ROOM_CELLS;
            values[end] = value;
            senders[end] = sender;
            size++;
        }

        int valueAt(int k) {
            return k < 0 || k >= size ? 0 : values[(head + k) % ROOM_CELLS];
        }

        int firstSender() {
            return size < 1 ? OUTSIDE : senders[head];
        }

        void removeFirst() {
            if (size > 0) {
                head = (head + 1) % ROOM_CELLS;
                size--;
            }
        }
    }

    /** Actors one behind the other, each at most once. */
    private static final class Line {
        final Actor[] row = new Actor[MOST_ALIVE];
        int size = 0;

        Actor at(int k) {
            return k < 0 || k >= size ? null : row[k];
        }

        Actor find(int id) {
            for (int i = 0; i < size; i++) {
                if (row[i].id == id) {
                    return row[i];
                }
            }
            return null;
        }

        boolean contains(Actor actor) {
            for (int i = 0; i < size; i++) {
                if (row[i] == actor) {
                    return true;
                }
            }
            return false;
        }

        void add(Actor actor) {
            if (size < MOST_ALIVE) {
                row[size] = actor;
                size++;
            }
        }

        void remove(Actor actor) {
            for (int i = 0; i < size; i++) {
                if (row[i] == actor) {
                    size--;
                    for (int k = i; k < size; k++) {
                        row[k] = row[k + 1];
                    }
                    return;
                }
            }
        }
    }

    /** The timers in the order in which they were made. */
    private static final class Timers {
        static final int MOST = 10;
        static final int NONE = -1;

        final int[] owners = new int[MOST];
        final int[] values = new int[MOST];
        final boolean[] limits = new boolean[MOST];
        /* Long, as a number of ticks may be the greatest int. */
        private final long[] ends = new long[MOST];
        int size = 0;

        void add(int owner, long end, int value, boolean isLimit) {
            if (size < MOST) {
                owners[size] = owner;
                ends[size] = end;
                values[size] = value;
                limits[size] = isLimit;
                size++;
            }
        }

        int firstEnding(long time) {
            for (int i = 0; i < size; i++) {
                if (ends[i] == time) {
                    return i;
                }
            }
            return NONE;
        }

        /** Nothing happens when there is no timer i, so that NONE may be given. */
        void removeAt(int i) {
            if (i < 0 || i >= size) {
                return;
            }
            size--;
            for (int k = i; k < size; k++) {
                owners[k] = owners[k + 1];
                ends[k] = ends[k + 1];
                values[k] = values[k + 1];
                limits[k] = limits[k + 1];
            }
        }

        int limitOf(int owner) {
            for (int i = 0; i < size; i++) {
                if (owners[i] == owner && limits[i]) {
                    return i;
                }
            }
            return NONE;
        }

        void removeAllOf(int owner) {
            for (int i = size - 1; i >= 0; i--) {
                if (owners[i] == owner) {
                    removeAt(i);
                }
            }
        }
    }

    /** The values put out, each with its author. */
    private static final class Outputs {
        private static final int MOST = 60;

        final int[] values = new int[MOST];
        final int[] authors = new int[MOST];
        int size = 0;

        boolean has(int i) {
            return i >= 0 && i < size;
        }

        void add(int value, int author) {
            if (size < MOST) {
                values[size] = value;
                authors[size] = author;
                size++;
            }
        }
    }
}
