import java.util.function.Supplier;
import java.util.function.ToIntFunction;

/**
 * "A refused call changes nothing": of two yards made by the same calls one is asked for something
 * that it refuses; both are then the same, and go on in the same way.
 */
public final class RefusalTest {
    private static final int IDS = 10;
    private static final int[] NO_CELLS = {Check.LEAST, -1, 48, Check.GREATEST};
    private static final int[] NO_REGISTERS = {Check.LEAST, -1, 4, Check.GREATEST};
    private static final int[] NO_IDS = {Check.LEAST, -1, 0, 99, Check.GREATEST};

    /** In each of the yards these two were alive once and are not any more. */
    private static final int[] ENDED = {2, 3};

    private final String name;
    private final Supplier<MailYard> maker;

    private RefusalTest(String name, Supplier<MailYard> maker) {
        this.name = name;
        this.maker = maker;
    }

    public static void main(String[] args) {
        RefusalTest[] yards = {
            new RefusalTest("busy: ", RefusalTest::busy),
            new RefusalTest("eight alive: ", RefusalTest::eightAlive),
            new RefusalTest("no cell free: ", RefusalTest::noCellFree),
        };
        theYardsAreWorthIt();
        for (RefusalTest yard : yards) {
            yard.load02();
            yard.spawn03Bad();
            yard.inject04Dead();
            yard.run06Bad();
            yard.askedForOneNotAlive();
            yard.askedForWhatIsNot();
        }
        yards[1].spawn03Full();
        yards[2].inject04Full();
        new RefusalTest("all wait: ", RefusalTest::allWait).step05EmptyQueue();
        new RefusalTest("new: ", MailYard::new).nothingIsThere();
        Check.finish();
    }

    /** A trapping supervisor 1, which began one anew, and others amid what they do, at time 3. */
    private static MailYard busy() {
        MailYard x = new MailYard();
        Check.program(x, 0, Check.TRAP, 0, 1, Check.SET, 1, 7, Check.CHILD, 1, 10, Check.LINK, 1, 0,
                Check.TAKE, 2, 4, Check.PUT, 2, 0, Check.GOTO, 0, 4);
        Check.program(x, 10, Check.LATER, 0, 2, Check.TAKE, 1, 0, Check.PUT, 1, 0, Check.STOP, 1, 0);
        Check.program(x, 20, Check.ADD, 1, 0, Check.ADD, 2, 1, Check.GOTO, 0, 20, Check.GOTO, 0, 20,
                Check.GOTO, 0, 20);
        Check.program(x, 30, Check.LINK, 0, 0, Check.TAKE, 1, 6, Check.SEND, 3, 1, Check.SEND, 0, 1,
                Check.GOTO, 0, 31);
        x.spawn(0, 5);
        x.run(7);
        x.spawn(47, 0);
        x.step();
        x.spawn(20, 3);
        x.spawn(30, 4);
        x.spawn(20, 2);
        x.run(12);
        x.tick();
        x.tick();
        x.run(22);
        x.tick();
        x.inject(4, 8);
        x.inject(5, 9);
        x.run(20);
        return x;
    }

    private static MailYard eightAlive() {
        MailYard x = busy();
        for (int id = 8; id <= 10; id++) {
            Check.due("one more", x.spawn(20, id), id);
        }
        return x;
    }

    private static MailYard noCellFree() {
        MailYard x = busy();
        for (int n = x.room(); n > 0; n--) {
            x.inject(4, n);
        }
        // A message that nobody could take, so that the count of the lost is not 0.
        x.load(40, Check.SEND, 0, 0);
        x.load(41, Check.GOTO, 0, 41);
        x.spawn(40, 4);
        x.run(20);
        return x;
    }

    private static MailYard allWait() {
        MailYard x = busy();
        x.load(22, Check.TAKE, 1, 3);
        for (int i = 0; i < 3; i++) {
            x.run(40);
        }
        return x;
    }

    /** Lest the yards are not what their names say. */
    private static void theYardsAreWorthIt() {
        MailYard x = busy();
        Check.due("restarts", x.restarts(1), 1);
        Check.due("a child begun anew", x.supervisor(7), 1);
        Check.due("ended", x.status(2) + x.status(3), 0);
        Check.due("a link", x.linked(4, 5), true);
        Check.due("timers", x.timers() > 1, true);
        Check.due("outputs", x.output(-1) > 0, true);
        Check.due("mail", x.mail(4), 2);
        Check.due("the queue", Check.queueDigits(x), 64);
        x.run(4);
        Check.due("the front amid its turn", Check.queueDigits(x), 46);
        Check.due("eight", eightAlive().spawn(0, 0), MailYard.FULL);
        Check.due("no room", noCellFree().room(), 0);
        Check.due("lost", noCellFree().lost() > 0, true);
        Check.due("all wait", allWait().queue(0), 0);
        Check.due("they do", allWait().status(4), 2);
    }

    private void refuse(String what, ToIntFunction<MailYard> call, int want) {
        MailYard left = maker.get();
        MailYard asked = maker.get();
        Check.due(name + what, call.applyAsInt(asked), want);
        Check.due(name + what + " at once", Picture.of(asked, IDS), Picture.of(left, IDS));
        for (int i = 0; i < 8; i++) {
            Check.due(name + what + " run " + i, asked.run(12), left.run(12));
            Check.due(name + what + " tick " + i, asked.tick(), left.tick());
        }
        Check.due(name + what + " next id", asked.spawn(20, 1), left.spawn(20, 1));
        Check.due(name + what + " later", Picture.of(asked, IDS), Picture.of(left, IDS));
    }

    private void refuseLoad(int cell, int op, int a, int b) {
        refuse("load " + cell + " " + op + " " + a + " " + b, x -> x.load(cell, op, a, b) ? 1 : 0, 0);
    }

    /** At cells that are done again and again, so that a change would be seen. */
    private void load02() {
        for (int cell : NO_CELLS) {
            refuseLoad(cell, Check.STOP, 0, 0);
        }
        refuseLoad(20, -1, 1, 1);
        refuseLoad(20, 14, 1, 1);
        for (int op = 0; op <= 13; op++) {
            if (op != Check.GOTO && op != Check.TRAP) {
                refuseLoad(20, op, -1, 1);
                refuseLoad(20, op, 4, 1);
            }
        }
        int[] withRegister = {Check.ADD, Check.LESS, Check.SEND};
        for (int op : withRegister) {
            refuseLoad(4, op, 0, -1);
            refuseLoad(4, op, 0, 4);
        }
        int[] withCell = {Check.GOTO, Check.SPAWN, Check.CHILD};
        for (int op : withCell) {
            refuseLoad(21, op, 0, -1);
            refuseLoad(21, op, 0, 48);
        }
        refuseLoad(10, Check.LATER, 0, 0);
        refuseLoad(10, Check.LATER, 0, Check.LEAST);
    }

    private void spawn03Bad() {
        for (int entry : NO_CELLS) {
            refuse("spawn at " + entry, x -> x.spawn(entry, 1), MailYard.BAD);
        }
    }

    private void spawn03Full() {
        refuse("spawn at 0", x -> x.spawn(0, 1), MailYard.FULL);
        refuse("spawn at 47", x -> x.spawn(47, 1), MailYard.FULL);
    }

    private void inject04Dead() {
        for (int id : NO_IDS) {
            refuse("inject to " + id, x -> x.inject(id, 1), MailYard.DEAD);
        }
        for (int id : ENDED) {
            refuse("inject to " + id, x -> x.inject(id, 1), MailYard.DEAD);
        }
        refuse("inject to the next but one", x -> x.inject(12, 1), MailYard.DEAD);
    }

    /** To one that waits with a limit, and to one that is runnable. */
    private void inject04Full() {
        refuse("inject to 1", x -> x.inject(1, 1), MailYard.FULL);
        refuse("inject to 4", x -> x.inject(4, 1), MailYard.FULL);
        refuse("inject to 7", x -> x.inject(7, 1), MailYard.FULL);
    }

    private void step05EmptyQueue() {
        refuse("step", MailYard::step, 0);
        refuse("run 40", x -> x.run(40), 0);
        refuse("run 0", x -> x.run(0), 0);
        refuse("run 41", x -> x.run(41), MailYard.BAD);
    }

    private void run06Bad() {
        int[] bad = {Check.LEAST, -1, 41, Check.GREATEST};
        for (int n : bad) {
            refuse("run " + n, x -> x.run(n), MailYard.BAD);
        }
        refuse("run 0", x -> x.run(0), 0);
    }

    private void askedForOneNotAlive() {
        for (int id : NO_IDS) {
            refuse("status of " + id, x -> x.status(id), MailYard.BAD);
            askedForNone(id);
        }
        for (int id : ENDED) {
            refuse("status of " + id, x -> x.status(id), 0);
            askedForNone(id);
        }
    }

    private void askedForNone(int id) {
        refuse("register of " + id, x -> x.register(id, 0), 0);
        refuse("place of " + id, x -> x.place(id), MailYard.DEAD);
        refuse("mail of " + id, x -> x.mail(id), MailYard.DEAD);
        refuse("message of " + id, x -> x.message(id, 0), 0);
        refuse("linked of " + id, x -> x.linked(id, 4) ? 1 : 0, 0);
        refuse("linked with " + id, x -> x.linked(4, id) ? 1 : 0, 0);
        refuse("supervisor of " + id, x -> x.supervisor(id), MailYard.DEAD);
        refuse("restarts of " + id, x -> x.restarts(id), MailYard.DEAD);
    }

    private void askedForWhatIsNot() {
        for (int r : NO_REGISTERS) {
            refuse("register " + r, x -> x.register(4, r), 0);
        }
        int[] none = {Check.LEAST, -1, 60, Check.GREATEST};
        for (int k : none) {
            refuse("message " + k, x -> x.message(4, k), 0);
            refuse("queue " + k, x -> x.queue(k), 0);
            refuse("author " + k, x -> x.author(k), MailYard.BAD);
        }
        refuse("output 60", x -> x.output(60), 0);
        refuse("output -2", x -> x.output(-2), 0);
        refuse("linked with itself", x -> x.linked(4, 4) ? 1 : 0, 0);
    }

    private void nothingIsThere() {
        refuse("step", MailYard::step, 0);
        refuse("run 40", x -> x.run(40), 0);
        refuse("inject", x -> x.inject(1, 5), MailYard.DEAD);
        refuse("spawn", x -> x.spawn(48, 5), MailYard.BAD);
        refuse("status", x -> x.status(1), MailYard.BAD);
        askedForNone(1);
        refuse("queue", x -> x.queue(0), 0);
        refuse("output", x -> x.output(0), 0);
        refuse("author", x -> x.author(0), MailYard.BAD);
    }
}
