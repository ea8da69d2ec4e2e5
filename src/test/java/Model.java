import java.util.ArrayDeque;
import java.util.ArrayList;
import java.util.Deque;
import java.util.HashSet;
import java.util.List;
import java.util.Map;
import java.util.Set;
import java.util.TreeMap;

/** The document once more, as plainly as the Java library allows, to compare the program with. */
final class Model {
    /** What a run came upon, so that a test can tell that it came upon everything. */
    enum Event {
        LOST_SEND, LOST_EXIT, LOST_TIMER, ENDED_BY_LINK, EXIT_MESSAGE, ENDED_WITH_SUPERVISOR, BEGUN_ANEW,
        TOO_OFTEN, OLD_BEGINNINGS_FORGOTTEN, TEN_TIMERS, SIXTY_OUTPUTS, LIMIT_ENDED, LIMIT_TAKEN_IN_TICK,
        LINK_WITHOUT_ROOM, LINK_WITH_DEAD, SPAWN_WHEN_FULL, ENDED_ALREADY, BEGUN_BY_ONE_THAT_ENDS, NO_CELL
    }

    record Message(int value, int from) { }

    record Ending(int id, int reason) { }

    private static final class Actor {
        int id;
        int entry;
        int argument;
        int place;
        int supervisor;
        int[] registers = new int[4];
        Deque<Message> mailbox = new ArrayDeque<>();
        boolean traps;
        boolean waits;
        int instructions;
        List<Integer> beginnings = new ArrayList<>();
    }

    private static final class Timer {
        int actor;
        long end;
        int value;
        boolean limit;
    }

    final Map<Event, Integer> events = new TreeMap<>();
    private final int[][] code = new int[48][];
    private final TreeMap<Integer, Actor> alive = new TreeMap<>();
    private final List<Actor> queue = new ArrayList<>();
    private final Set<Set<Integer>> links = new HashSet<>();
    private final List<Timer> timers = new ArrayList<>();
    private final List<Message> outputs = new ArrayList<>();
    private final Deque<Ending> endings = new ArrayDeque<>();
    private int ids;
    private int now;
    private int lost;

    private void saw(Event event) {
        events.merge(event, 1, Integer::sum);
    }

    boolean load(int cell, int op, int a, int b) {
        if (cell < 0 || cell > 47 || op < 0 || op > 13) {
            return false;
        }
        boolean aIsRegister = a >= 0 && a < 4;
        boolean bIsRegister = b >= 0 && b < 4;
        boolean bIsCell = b >= 0 && b < 48;
        if (op != 3 && op != 9 && !aIsRegister) {
            return false;
        }
        if ((op == 1 || op == 2 || op == 4) && !bIsRegister) {
            return false;
        }
        if ((op == 3 || op == 6 || op == 7) && !bIsCell) {
            return false;
        }
        if (op == 13 && b < 1) {
            return false;
        }
        code[cell] = new int[] {op, a, b};
        return true;
    }

    int spawn(int entry, int argument) {
        if (entry < 0 || entry > 47) {
            return -1;
        }
        return alive.size() == 8 ? -2 : begin(entry, argument, 0);
    }

    private int begin(int entry, int argument, int supervisor) {
        Actor actor = new Actor();
        actor.id = ++ids;
        actor.entry = entry;
        actor.place = entry;
        actor.argument = argument;
        actor.registers[0] = argument;
        actor.supervisor = supervisor;
        alive.put(actor.id, actor);
        queue.add(actor);
        return actor.id;
    }

    int inject(int id, int value) {
        if (!alive.containsKey(id)) {
            return -3;
        }
        if (room() == 0) {
            return -2;
        }
        send(id, value, 0, Event.LOST_SEND);
        return 1;
    }

    private void send(int id, int value, int from, Event whenLost) {
        Actor actor = alive.get(id);
        if (actor == null) {
            return;
        }
        if (room() == 0) {
            lost++;
            saw(whenLost);
            return;
        }
        actor.mailbox.addLast(new Message(value, from));
        if (actor.waits) {
            timers.removeIf(t -> t.limit && t.actor == id);
            wake(actor);
        }
    }

    private void wake(Actor actor) {
        actor.waits = false;
        actor.instructions = 0;
        queue.add(actor);
    }

    int step() {
        if (queue.isEmpty()) {
            return 0;
        }
        Actor actor = queue.get(0);
        actor.instructions++;
        perform(actor);
        while (!endings.isEmpty()) {
            deal(endings.removeFirst());
        }
        if (alive.containsKey(actor.id) && !actor.waits && actor.instructions == 5) {
            queue.remove(0);
            actor.instructions = 0;
            queue.add(actor);
        }
        return actor.id;
    }

    private void perform(Actor actor) {
        int[] cell = actor.place > 47 ? null : code[actor.place];
        if (cell == null) {
            saw(Event.NO_CELL);
            endings.add(new Ending(actor.id, -5));
            return;
        }
        int a = cell[1];
        int b = cell[2];
        int[] r = actor.registers;
        int next = actor.place + 1;
        switch (cell[0]) {
            case 0: r[a] = b; break;
            case 1: r[a] = r[a] + r[b]; break;
            case 2: if (r[a] < r[b]) { next = actor.place + 2; } break;
            case 3: next = b; break;
            case 4: send(r[a], r[b], actor.id, Event.LOST_SEND); break;
            case 5: next = take(actor, a, b); break;
            case 6: r[a] = full() ? -1 : begin(b, r[a], 0); break;
            case 7: r[a] = full() ? -1 : begin(b, r[a], actor.id); break;
            case 8: link(actor, a); break;
            case 9: actor.traps = b != 0; break;
            case 10: endings.add(new Ending(actor.id, r[a])); break;
            case 11: put(r[a], actor.id); break;
            case 12: r[a] = actor.id; break;
            case 13: timer(actor.id, b, r[a], false); break;
            default: throw new IllegalStateException();
        }
        actor.place = next;
    }

    private boolean full() {
        if (alive.size() == 8) {
            saw(Event.SPAWN_WHEN_FULL);
        }
        return alive.size() == 8;
    }

    private void put(int value, int id) {
        if (outputs.size() == 60) {
            saw(Event.SIXTY_OUTPUTS);
        } else {
            outputs.add(new Message(value, id));
        }
    }

    private void timer(int id, int ticks, int value, boolean limit) {
        if (timers.size() == 10) {
            saw(Event.TEN_TIMERS);
            return;
        }
        Timer t = new Timer();
        t.actor = id;
        t.end = (long) now + ticks;
        t.value = value;
        t.limit = limit;
        timers.add(t);
    }

    private int take(Actor actor, int a, int b) {
        if (!actor.mailbox.isEmpty()) {
            Message m = actor.mailbox.removeFirst();
            actor.registers[3] = m.from();
            actor.registers[a] = m.value();
            return actor.place + 1;
        }
        actor.waits = true;
        queue.remove(actor);
        if (b >= 1) {
            timer(actor.id, b, 0, true);
        }
        return actor.place;
    }

    private void link(Actor actor, int a) {
        int id = actor.registers[a];
        if (id == actor.id || links.contains(Set.of(id, actor.id))) {
            return;
        }
        if (!alive.containsKey(id)) {
            saw(Event.LINK_WITH_DEAD);
            exit(id, -1, actor);
        } else if (room() == 0) {
            saw(Event.LINK_WITHOUT_ROOM);
            actor.registers[a] = -1;
        } else {
            links.add(Set.of(id, actor.id));
        }
    }

    private void exit(int from, int reason, Actor to) {
        if (to.traps) {
            send(to.id, reason, from, Event.LOST_EXIT);
        } else if (reason != 0) {
            endings.add(new Ending(to.id, reason));
        }
    }

    private void deal(Ending ending) {
        Actor x = alive.get(ending.id());
        if (x == null) {
            saw(Event.ENDED_ALREADY);
            return;
        }
        alive.remove(x.id);
        queue.remove(x);
        timers.removeIf(t -> t.actor == x.id);
        for (Actor y : alive.values()) {
            if (links.remove(Set.of(x.id, y.id))) {
                saw(y.traps ? Event.EXIT_MESSAGE : Event.ENDED_BY_LINK);
                exit(x.id, ending.reason(), y);
            }
        }
        for (Actor y : alive.values()) {
            if (y.supervisor == x.id) {
                saw(Event.ENDED_WITH_SUPERVISOR);
                endings.add(new Ending(y.id, -2));
            }
        }
        Actor supervisor = alive.get(x.supervisor);
        if (supervisor != null && ending.reason() != 0) {
            beginAnew(x, supervisor);
        }
    }

    private void beginAnew(Actor x, Actor supervisor) {
        int recent = 0;
        for (int time : supervisor.beginnings) {
            if (time > now - 10) {
                recent++;
            }
        }
        if (recent >= 3) {
            saw(Event.TOO_OFTEN);
            endings.add(new Ending(supervisor.id, -3));
            return;
        }
        saw(Event.BEGUN_ANEW);
        if (supervisor.beginnings.size() >= 3) {
            saw(Event.OLD_BEGINNINGS_FORGOTTEN);
        }
        if (endings.stream().anyMatch(e -> e.id() == supervisor.id)) {
            saw(Event.BEGUN_BY_ONE_THAT_ENDS);
        }
        supervisor.beginnings.add(now);
        begin(x.entry, x.argument, x.supervisor);
    }

    int run(int n) {
        if (n < 0 || n > 40) {
            return -1;
        }
        int done = 0;
        while (done < n && step() != 0) {
            done++;
        }
        return done;
    }

    int tick() {
        now++;
        int count = 0;
        for (Timer t : new ArrayList<>(timers)) {
            if (t.end != now) {
                continue;
            }
            if (!timers.remove(t)) {
                saw(Event.LIMIT_TAKEN_IN_TICK);
                continue;
            }
            count++;
            Actor actor = alive.get(t.actor);
            if (t.limit) {
                saw(Event.LIMIT_ENDED);
                actor.place += 2;
                wake(actor);
            } else {
                send(t.actor, t.value, t.actor, Event.LOST_TIMER);
            }
        }
        return count;
    }

    int status(int id) {
        if (id < 1 || id > ids) {
            return -1;
        }
        return !alive.containsKey(id) ? 0 : alive.get(id).waits ? 2 : 1;
    }

    int register(int id, int r) {
        return !alive.containsKey(id) || r < 0 || r > 3 ? 0 : alive.get(id).registers[r];
    }

    int place(int id) {
        return alive.containsKey(id) ? alive.get(id).place : -3;
    }

    int mail(int id) {
        return alive.containsKey(id) ? alive.get(id).mailbox.size() : -3;
    }

    int message(int id, int k) {
        if (!alive.containsKey(id) || k < 0 || k >= alive.get(id).mailbox.size()) {
            return 0;
        }
        return new ArrayList<>(alive.get(id).mailbox).get(k).value();
    }

    boolean linked(int id, int other) {
        return id != other && links.contains(Set.of(id, other));
    }

    int supervisor(int id) {
        if (!alive.containsKey(id)) {
            return -3;
        }
        int supervisor = alive.get(id).supervisor;
        return alive.containsKey(supervisor) ? supervisor : 0;
    }

    int restarts(int id) {
        return alive.containsKey(id) ? alive.get(id).beginnings.size() : -3;
    }

    int queue(int k) {
        return k < 0 || k >= queue.size() ? 0 : queue.get(k).id;
    }

    int room() {
        int used = links.size();
        for (Actor actor : alive.values()) {
            used += actor.mailbox.size();
        }
        return 24 - used;
    }

    int lost() {
        return lost;
    }

    int timers() {
        return timers.size();
    }

    int output(int i) {
        if (i == -1) {
            return outputs.size();
        }
        return i < 0 || i >= outputs.size() ? 0 : outputs.get(i).value();
    }

    int author(int i) {
        return i < 0 || i >= outputs.size() ? -1 : outputs.get(i).from();
    }

    int lastId() {
        return ids;
    }
}
