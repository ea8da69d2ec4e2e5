import java.util.Map;
import java.util.Random;
import java.util.TreeMap;

/** Runs of 512 calls on the program and on the model, the same from one time to the next. */
public final class ModelTest {
    private static final int RUNS = 4000;
    private static final int CALLS = 512;
    private static final int[] EDGES = {Integer.MIN_VALUE, Integer.MAX_VALUE, -3, -2, -1, 0, 3, 4, 47, 48, 60};

    private final Random random;
    private final MailYard yard = new MailYard();
    private final Model model = new Model();
    private final String name;
    private int calls = 0;

    private ModelTest(int seed) {
        random = new Random(seed);
        name = "run " + seed + " call ";
    }

    public static void main(String[] args) {
        Map<Model.Event, Integer> events = new TreeMap<>();
        for (int seed = 1; seed <= RUNS; seed++) {
            ModelTest test = new ModelTest(seed);
            test.play();
            test.model.events.forEach((event, n) -> events.merge(event, n, Integer::sum));
        }
        for (Model.Event event : Model.Event.values()) {
            Check.due("came upon " + event, events.getOrDefault(event, 0) > 0, true);
        }
        System.out.println(events);
        Check.finish();
    }

    private void play() {
        int filled = chance(25) ? 50 : 100;
        for (int cell = 0; cell < 48; cell++) {
            if (chance(filled)) {
                loadSome(cell);
            }
        }
        int kind = random.nextInt(4);
        if (kind == 0) {
            loadWatch();
        }
        while (calls < CALLS) {
            act(kind);
            for (int i = 0; i < 2 && calls < CALLS; i++) {
                ask();
            }
        }
    }

    private int edge() {
        return EDGES[random.nextInt(EDGES.length)];
    }

    private boolean chance(int percent) {
        return random.nextInt(100) < percent;
    }

    private int id() {
        return chance(3) ? edge() : Math.max(0, model.lastId() - random.nextInt(11) + 1);
    }

    private void due(String call, int got, int want) {
        calls++;
        Check.due(name + calls + " " + call, got, want);
    }

    private void due(String call, boolean got, boolean want) {
        due(call, got ? 1 : 0, want ? 1 : 0);
    }

    private void load(int cell, int op, int a, int b) {
        if (calls < CALLS) {
            due("load", yard.load(cell, op, a, b), model.load(cell, op, a, b));
        }
    }

    /** A supervisor that may trap and link, with children that begin anywhere. */
    private void loadWatch() {
        load(0, 9, 0, random.nextInt(2));
        load(1, 7, 1, 10 + random.nextInt(30));
        load(2, chance(40) ? 8 : 12, 1, 0);
        load(3, 7, 2, 10 + random.nextInt(30));
        load(4, chance(40) ? 8 : 12, 2, 0);
        load(5, 5, 1, random.nextInt(4));
        load(6, 3, 0, 5);
        load(7, 3, 0, 5);
    }

    private void loadSome(int cell) {
        int op = random.nextInt(14);
        if (op == 10 && chance(50)) {
            op = 8;
        }
        int b = switch (op) {
            case 0 -> chance(5) ? edge() : random.nextInt(14) - 1;
            case 1, 2, 4 -> random.nextInt(4);
            case 3, 6, 7 -> random.nextInt(48);
            case 5 -> chance(5) ? edge() : random.nextInt(5) - 1;
            case 13 -> chance(5) ? edge() : 1 + random.nextInt(5);
            default -> random.nextInt(3);
        };
        if (chance(2)) {
            load(edge(), edge(), edge(), edge());
        }
        load(cell, op, chance(1) ? edge() : random.nextInt(4), b);
    }

    private void act(int kind) {
        int n = random.nextInt(100);
        if (n < 15) {
            int entry = chance(2) ? edge() : kind == 0 && chance(60) ? 0 : random.nextInt(48);
            int argument = random.nextInt(12);
            due("spawn", yard.spawn(entry, argument), model.spawn(entry, argument));
        } else if (n < 35) {
            int id = id();
            int value = chance(3) ? edge() : random.nextInt(10);
            due("inject", yard.inject(id, value), model.inject(id, value));
        } else if (n < 55) {
            due("step", yard.step(), model.step());
        } else if (n < 75) {
            int steps = chance(3) ? edge() : random.nextInt(chance(30) ? 42 : 8);
            due("run", yard.run(steps), model.run(steps));
        } else if (n < 93) {
            due("tick", yard.tick(), model.tick());
        } else {
            loadSome(random.nextInt(48));
        }
    }

    private void ask() {
        int id = id();
        int k = chance(5) ? edge() : random.nextInt(9);
        switch (random.nextInt(14)) {
            case 0 -> due("status", yard.status(id), model.status(id));
            case 1 -> due("register", yard.register(id, k), model.register(id, k));
            case 2 -> due("place", yard.place(id), model.place(id));
            case 3 -> due("mail", yard.mail(id), model.mail(id));
            case 4 -> due("message", yard.message(id, k), model.message(id, k));
            case 5 -> askLinked(id, id());
            case 6 -> due("supervisor", yard.supervisor(id), model.supervisor(id));
            case 7 -> due("restarts", yard.restarts(id), model.restarts(id));
            case 8 -> due("queue", yard.queue(k), model.queue(k));
            case 9 -> due("room", yard.room(), model.room());
            case 10 -> due("lost", yard.lost(), model.lost());
            case 11 -> due("timers", yard.timers(), model.timers());
            case 12 -> askOutput(random.nextInt(62) - 1);
            default -> due("author", yard.author(k), model.author(k));
        }
    }

    private void askLinked(int id, int other) {
        due("linked", yard.linked(id, other), model.linked(id, other));
    }

    private void askOutput(int i) {
        due("output", yard.output(i), model.output(i));
    }
}
