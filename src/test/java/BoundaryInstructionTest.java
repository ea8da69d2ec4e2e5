/** The instructions 0 to 13 at their bounds: by the sentences that name something too much or none. */
public final class BoundaryInstructionTest {
    private BoundaryInstructionTest() {
    }

    public static void main(String[] args) {
        setOfAnyInt();
        addWraps();
        lessOrNot();
        lessAtTheEndOfTheCode();
        goToTheFirstAndTheLastCell();
        sendToItself();
        sendToNobody();
        takeWithTheLastMessage();
        takeIntoRegisterThree();
        takeWithoutALimit();
        takeWithALimit();
        takeWithNineTimers();
        takeWithTenTimers();
        limitAtTheEndOfTheCode();
        limitOfManyTicks();
        spawnAtTheFirstAndTheLastCell();
        spawnWhenEightAreAlive();
        linkWithItself();
        linkTwice();
        linkWithOneNotAlive();
        linkWithOneNotAliveEndsWithMinusOne();
        linkWithOneNotAliveWithoutACell();
        linkWithTheLastCell();
        linkWithoutACell();
        trapOrNot();
        stopWithAnyReason();
        putSixty();
        selfOfTheEighth();
        laterByOneTick();
        laterWithTenTimers();
        laterByManyTicks();
        emptyCell();
        placeThatIsNoCell();
        Check.finish();
    }

    /** "0 SET: register a becomes b." */
    private static void setOfAnyInt() {
        int[] values = {Check.LEAST, -1, 0, 1, Check.GREATEST};
        for (int value : values) {
            MailYard x = new MailYard();
            Check.program(x, 0, Check.SET, 0, value, Check.SET, 3, value);
            x.spawn(0, 7);
            x.run(2);
            Check.due("register 0", x.register(1, 0), value);
            Check.due("register 3", x.register(1, 3), value);
            Check.due("register 1", x.register(1, 1), 0);
        }
    }

    /** "registers wrap as ints do": the last sum that does not, and the first that does. */
    private static void addWraps() {
        int[][] sums = {
            {Check.GREATEST - 1, 1, Check.GREATEST}, {Check.GREATEST, 1, Check.LEAST},
            {Check.LEAST + 1, -1, Check.LEAST}, {Check.LEAST, -1, Check.GREATEST},
            {Check.GREATEST, Check.GREATEST, -2}, {Check.LEAST, Check.LEAST, 0},
        };
        for (int[] sum : sums) {
            MailYard x = new MailYard();
            Check.program(x, 0, Check.SET, 3, sum[1], Check.ADD, 0, 3);
            x.spawn(0, sum[0]);
            x.run(2);
            Check.due(sum[0] + " plus " + sum[1], x.register(1, 0), sum[2]);
            Check.due("the other stays", x.register(1, 3), sum[1]);
        }
    }

    /** "2 LESS: the place becomes 2 more if register a is less than register b." */
    private static void lessOrNot() {
        int[][] pairs = {
            {6, 7, 1}, {7, 7, 0}, {8, 7, 0}, {-1, 0, 1}, {0, -1, 0},
            {Check.LEAST, Check.GREATEST, 1}, {Check.GREATEST, Check.LEAST, 0}, {Check.LEAST, 1, 1},
            {1, Check.LEAST, 0}, {Check.LEAST, Check.LEAST, 0}, {Check.GREATEST, Check.GREATEST, 0},
        };
        for (int[] pair : pairs) {
            MailYard x = new MailYard();
            Check.program(x, 0, Check.SET, 3, pair[1], Check.LESS, 0, 3);
            x.spawn(0, pair[0]);
            x.run(2);
            Check.due(pair[0] + " less than " + pair[1], x.place(1), 2 + pair[2]);
        }
    }

    private static void lessAtTheEndOfTheCode() {
        for (int cell = 45; cell <= 47; cell++) {
            MailYard x = new MailYard();
            Check.program(x, 47, Check.SET, 3, 5);
            Check.program(x, cell, Check.LESS, 1, 0);
            x.spawn(cell, 1);
            x.step();
            Check.due("2 more than " + cell, x.place(1), cell + 2);
            x.step();
            Check.due("the next is a cell", x.status(1), cell == 45 ? 1 : 0);
        }
    }

    /** "3 GOTO: the place becomes b." */
    private static void goToTheFirstAndTheLastCell() {
        MailYard x = new MailYard();
        Check.program(x, 0, Check.GOTO, 0, 0);
        Check.program(x, 47, Check.GOTO, 0, 47);
        x.spawn(0, 0);
        x.spawn(47, 0);
        x.run(10);
        Check.due("0", x.place(1), 0);
        Check.due("47", x.place(2), 47);
        x.load(0, Check.GOTO, 0, 47);
        x.load(47, Check.GOTO, 0, 0);
        x.step();
        Check.due("from 0 to 47", x.place(1), 47);
        x.step();
        Check.due("from 47 to 0", x.place(1), 0);
    }

    /** "4 SEND: the value of register b is sent to the id in register a." */
    private static void sendToItself() {
        MailYard x = new MailYard();
        Check.program(x, 0, Check.SEND, 0, 0, Check.TAKE, 1, 0);
        x.spawn(0, 1);
        x.step();
        Check.due("mail", x.mail(1), 1);
        Check.due("queue", Check.queueDigits(x), 1);
        x.step();
        Check.due("value", x.register(1, 1), 1);
        Check.due("from itself", x.register(1, 3), 1);
    }

    private static void sendToNobody() {
        int[] nobody = {Check.LEAST, -1, 0, 1, 4, Check.GREATEST};
        for (int id : nobody) {
            MailYard x = new MailYard();
            Check.program(x, 0, Check.SEND, 0, 1, Check.GOTO, 0, 0);
            Check.program(x, 10, Check.TAKE, 1, 0);
            x.spawn(47, 0);
            x.step();
            x.spawn(10, 0);
            x.step();
            x.spawn(0, id);
            x.step();
            Check.due("place", x.place(3), 1);
            Check.due("alive", x.status(3), 1);
            Check.due("room", x.room(), 24);
            Check.due("lost", x.lost(), 0);
            Check.due("the other waits on", x.status(2), 2);
        }
    }

    /** "5 TAKE: the first message of its mailbox goes .. If there is none, the actor waits" */
    private static void takeWithTheLastMessage() {
        MailYard x = new MailYard();
        Check.program(x, 0, Check.TAKE, 0, 0, Check.TAKE, 1, 0);
        x.spawn(0, 5);
        x.spawn(0, 5);
        x.inject(1, Check.LEAST);
        x.step();
        Check.due("the last", x.register(1, 0), Check.LEAST);
        Check.due("place", x.place(1), 1);
        Check.due("runnable", x.status(1), 1);
        Check.due("counts as a step", x.step(), 1);
        Check.due("none", x.status(1), 2);
        Check.due("the place stays", x.place(1), 1);
        Check.due("the register stays", x.register(1, 1), 0);
        Check.due("it leaves the queue", Check.queueDigits(x), 2);
    }

    /** "(the value counts when a is 3)" */
    private static void takeIntoRegisterThree() {
        for (int a = 0; a <= 3; a++) {
            MailYard x = new MailYard();
            Check.program(x, 0, Check.SET, 1, 50, Check.SEND, 0, 1);
            Check.program(x, 10, Check.TAKE, a, 0);
            x.spawn(47, 0);
            x.step();
            x.spawn(0, 3);
            x.spawn(10, 0);
            x.run(4);
            Check.due("value in " + a, x.register(3, a), 50);
            Check.due("register 3 with " + a, x.register(3, 3), a == 3 ? 50 : 2);
        }
    }

    /** "if b is 1 or more .. with a limit that ends b ticks from now": 0 and less is none. */
    private static void takeWithoutALimit() {
        int[] numbers = {0, -1, Check.LEAST};
        for (int b : numbers) {
            MailYard x = new MailYard();
            Check.program(x, 0, Check.TAKE, 1, b);
            x.spawn(0, 0);
            x.step();
            Check.due("no timer for " + b, x.timers(), 0);
            for (int i = 0; i < 20; i++) {
                Check.due("no tick", x.tick(), 0);
            }
            Check.due("waits on", x.status(1), 2);
            Check.due("place", x.place(1), 0);
        }
    }

    private static void takeWithALimit() {
        int[] numbers = {1, 2, 9};
        for (int b : numbers) {
            MailYard x = new MailYard();
            Check.program(x, 0, Check.TAKE, 1, b);
            Check.ticks(x, 3);
            x.spawn(0, 0);
            x.step();
            Check.due("a timer for " + b, x.timers(), 1);
            for (int i = 1; i < b; i++) {
                Check.due("tick " + i + " of " + b, x.tick(), 0);
                Check.due("waits", x.status(1), 2);
            }
            Check.due("tick " + b, x.tick(), 1);
            Check.due("runnable", x.status(1), 1);
            Check.due("2 more", x.place(1), 2);
            Check.due("no timer", x.timers(), 0);
        }
    }

    /** 1 has made n timers that end at 5; 2 has come to a TAKE with a limit of 2. */
    private static MailYard withTimers(int n) {
        MailYard x = new MailYard();
        Check.program(x, 0, Check.LATER, 0, 5, Check.GOTO, 0, 0);
        x.spawn(0, 7);
        x.run(2 * n);
        x.load(0, Check.GOTO, 0, 0);
        Check.due("timers", x.timers(), n);
        Check.program(x, 10, Check.TAKE, 1, 2);
        x.spawn(10, 0);
        x.run(6);
        Check.due("waits", x.status(2), 2);
        return x;
    }

    /** "and there are not 10 timers" */
    private static void takeWithNineTimers() {
        MailYard x = withTimers(9);
        Check.due("the tenth", x.timers(), 10);
        x.tick();
        Check.due("it ends", x.tick(), 1);
        Check.due("runnable", x.status(2), 1);
        Check.due("place", x.place(2), 12);
    }

    private static void takeWithTenTimers() {
        MailYard x = withTimers(10);
        Check.due("no more", x.timers(), 10);
        x.tick();
        Check.due("none ends", x.tick(), 0);
        Check.due("waits on", x.status(2), 2);
        Check.due("place", x.place(2), 10);
        x.inject(2, 6);
        Check.due("a message takes none of the others", x.timers(), 10);
        Check.due("runnable", x.status(2), 1);
    }

    /** "When a limit ends, the place becomes 2 more, and it is runnable." */
    private static void limitAtTheEndOfTheCode() {
        for (int cell = 45; cell <= 47; cell++) {
            MailYard x = new MailYard();
            Check.program(x, 47, Check.SET, 3, 5);
            Check.program(x, cell, Check.TAKE, 1, 1);
            x.spawn(cell, 0);
            x.step();
            x.tick();
            Check.due("2 more than " + cell, x.place(1), cell + 2);
            Check.due("runnable", x.status(1), 1);
            x.step();
            Check.due("the next is a cell", x.status(1), cell == 45 ? 1 : 0);
        }
    }

    private static void limitOfManyTicks() {
        int[] numbers = {Check.GREATEST, Check.GREATEST - 1};
        for (int b : numbers) {
            MailYard x = new MailYard();
            Check.program(x, 0, Check.TAKE, 1, b);
            Check.ticks(x, 5);
            x.spawn(0, 0);
            x.step();
            Check.due("a limit", x.timers(), 1);
            for (int i = 0; i < 300; i++) {
                Check.due("far from its end", x.tick(), 0);
            }
            Check.due("waits on", x.status(1), 2);
            Check.due("it is there still", x.timers(), 1);
        }
    }

    /** "6 SPAWN: a new actor with entry b and the value of register a as argument" */
    private static void spawnAtTheFirstAndTheLastCell() {
        int[] ops = {Check.SPAWN, Check.CHILD};
        for (int op : ops) {
            MailYard x = new MailYard();
            Check.program(x, 10, op, 0, 0, op, 3, 47);
            x.spawn(10, Check.LEAST);
            x.run(2);
            Check.due("its id", x.register(1, 0), 2);
            Check.due("first cell", x.place(2), 0);
            Check.due("argument", x.register(2, 0), Check.LEAST);
            Check.due("its id", x.register(1, 3), 3);
            Check.due("last cell", x.place(3), 47);
            Check.due("supervisor", x.supervisor(3), op == Check.CHILD ? 1 : 0);
            Check.due("queue", Check.queueDigits(x), 123);
        }
    }

    /** "register a becomes its id, or -1 when 8 are alive": and its id again when there are 7. */
    private static void spawnWhenEightAreAlive() {
        int[] ops = {Check.SPAWN, Check.CHILD};
        for (int op : ops) {
            MailYard x = new MailYard();
            Check.program(x, 0, op, 2, 10, Check.GOTO, 0, 0);
            Check.program(x, 10, Check.TAKE, 1, 0, Check.STOP, 1, 0);
            x.spawn(0, 0);
            for (int i = 2; i <= 8; i++) {
                x.spawn(10, 0);
            }
            x.run(12);
            Check.due("eight", x.register(1, 2), -1);
            Check.due("none was begun", x.status(9), MailYard.BAD);
            x.inject(5, 0);
            x.run(7);
            Check.due("ended", x.status(5), 0);
            x.step();
            Check.due("seven: the id behind the last", x.register(1, 2), 9);
            x.run(2);
            Check.due("eight again", x.register(1, 2), -1);
            Check.due("none was begun", x.status(10), MailYard.BAD);
        }
    }

    /** "8 LINK: .. If that is itself or they are linked, nothing happens" */
    private static void linkWithItself() {
        int[] messages = {0, 23, 24};
        for (int n : messages) {
            MailYard x = new MailYard();
            Check.program(x, 0, Check.LINK, 0, 0);
            x.spawn(0, 1);
            Check.messages(x, 1, n);
            x.step();
            Check.due("room", x.room(), 24 - n);
            Check.due("register", x.register(1, 0), 1);
            Check.due("place", x.place(1), 1);
            Check.due("alive", x.status(1), 1);
            Check.due("not linked", x.linked(1, 1), false);
            Check.due("no exit", x.mail(1), n);
        }
    }

    private static void linkTwice() {
        int[] messages = {0, 22, 23};
        for (int n : messages) {
            MailYard x = new MailYard();
            Check.program(x, 0, Check.TAKE, 1, 1, Check.GOTO, 0, 1, Check.SET, 1, 2, Check.LINK, 1, 0);
            Check.program(x, 10, Check.LINK, 0, 0, Check.LINK, 0, 0, Check.TAKE, 1, 0);
            x.spawn(0, 0);
            x.step();
            x.spawn(10, 1);
            Check.messages(x, 2, n);
            x.run(2);
            Check.due("one cell", x.room(), 23 - n);
            Check.due("register", x.register(2, 0), 1);
            Check.due("linked", x.linked(1, 2), true);
            x.load(12, Check.GOTO, 0, 12);
            x.tick();
            x.run(5);
            Check.due("nor from the other side", x.room(), 23 - n);
            Check.due("its register", x.register(1, 1), 2);
            Check.due("its place", x.place(1), 4);
        }
    }

    /** "if it is not alive, this actor gets the EXIT of it with the reason -1" */
    private static void linkWithOneNotAlive() {
        int[] ids = {Check.LEAST, -1, 0, 1, 4, Check.GREATEST};
        for (int id : ids) {
            MailYard x = new MailYard();
            Check.program(x, 0, Check.TRAP, 0, 1, Check.LINK, 0, 0, Check.TAKE, 1, 0);
            x.spawn(47, 0);
            x.step();
            x.spawn(0, id);
            x.spawn(1, id);
            x.run(2);
            Check.due("the exit of " + id, x.mail(2), 1);
            Check.due("its reason", x.message(2, 0), -1);
            Check.due("its cell", x.room(), 23);
            x.step();
            Check.due("where from", x.register(2, 3), id);
            Check.due("register", x.register(2, 0), id);
            x.run(2);
            Check.due("one that does not trap ends", x.status(3), 0);
        }
    }

    /** One that does not trap ends with the same -1, as one linked with it is told. */
    private static void linkWithOneNotAliveEndsWithMinusOne() {
        MailYard x = new MailYard();
        Check.program(x, 0, Check.TAKE, 1, 0, Check.LINK, 0, 0);
        Check.program(x, 10, Check.TRAP, 0, 1, Check.LINK, 0, 0, Check.TAKE, 1, 0);
        x.spawn(0, 9);
        x.spawn(10, 1);
        x.run(4);
        x.inject(1, 0);
        x.run(2);
        Check.due("ended", x.status(1), 0);
        Check.due("its exit", x.mail(2), 1);
        Check.due("its reason", x.message(2, 0), -1);
    }

    private static void linkWithOneNotAliveWithoutACell() {
        for (int n = 23; n <= 24; n++) {
            MailYard x = new MailYard();
            Check.program(x, 0, Check.TRAP, 0, 1, Check.LINK, 0, 0, Check.GOTO, 0, 2);
            x.spawn(0, 9);
            x.spawn(1, 9);
            Check.messages(x, 1, n);
            x.run(2);
            Check.due("mail", x.mail(1), 24);
            Check.due("lost", x.lost(), n - 23);
            Check.due("register", x.register(1, 0), 9);
            Check.due("place", x.place(1), 2);
            x.run(4);
            Check.due("one that does not trap ends all the same", x.status(2), 0);
        }
    }

    /** "if no cell is free, register a becomes -1" */
    private static void linkWithTheLastCell() {
        MailYard x = linkBehindMessages(23);
        Check.due("linked", x.linked(1, 2), true);
        Check.due("from the other side", x.linked(2, 1), true);
        Check.due("register", x.register(1, 1), 2);
        Check.due("room", x.room(), 0);
    }

    private static void linkWithoutACell() {
        MailYard x = linkBehindMessages(24);
        Check.due("not linked", x.linked(1, 2), false);
        Check.due("register", x.register(1, 1), -1);
        Check.due("room", x.room(), 0);
        Check.due("not lost", x.lost(), 0);
        Check.due("alive", x.status(1), 1);
        Check.due("place", x.place(1), 2);
    }

    private static MailYard linkBehindMessages(int n) {
        MailYard x = new MailYard();
        Check.program(x, 0, Check.SET, 1, 2, Check.LINK, 1, 0);
        x.spawn(0, 0);
        x.spawn(0, 0);
        Check.messages(x, 2, n);
        x.run(2);
        return x;
    }

    /** "9 TRAP: it traps if b is not 0, otherwise not." */
    private static void trapOrNot() {
        int[] numbers = {Check.LEAST, -1, 0, 1, 2, Check.GREATEST};
        for (int b : numbers) {
            for (int before = 0; before <= 1; before++) {
                MailYard x = new MailYard();
                Check.program(x, 0, Check.TRAP, 0, before, Check.TRAP, 0, b, Check.LINK, 0, 0);
                x.spawn(0, 0);
                x.run(3);
                Check.due("TRAP " + b + " behind " + before, x.status(1), b == 0 ? 0 : 1);
            }
        }
    }

    /** "10 STOP: it ends with the value of register a as reason." */
    private static void stopWithAnyReason() {
        int[] reasons = {Check.LEAST, -1, 0, 1, Check.GREATEST};
        for (int reason : reasons) {
            MailYard x = new MailYard();
            Check.program(x, 0, Check.TRAP, 0, 1, Check.LINK, 0, 0, Check.TAKE, 1, 0);
            Check.program(x, 10, Check.TAKE, 3, 0, Check.STOP, 0, 0);
            x.spawn(10, reason);
            x.spawn(0, 1);
            x.run(4);
            x.inject(1, 5);
            x.run(2);
            Check.due("ended with " + reason, x.status(1), 0);
            Check.due("its exit", x.mail(2), 1);
            Check.due("the reason", x.message(2, 0), reason);
        }
    }

    /** "11 PUT: the value of register a is put out (nothing when there are 60 outputs)." */
    private static void putSixty() {
        MailYard x = new MailYard();
        Check.program(x, 0, Check.PUT, 3, 0, Check.GOTO, 0, 0);
        x.spawn(0, 0);
        x.run(40);
        x.run(40);
        x.run(38);
        Check.due("59", x.output(-1), 59);
        x.load(0, Check.SET, 3, Check.GREATEST);
        x.load(1, Check.PUT, 3, 0);
        x.load(2, Check.PUT, 3, 0);
        x.run(2);
        Check.due("60", x.output(-1), 60);
        Check.due("the last", x.output(59), Check.GREATEST);
        Check.due("a step", x.step(), 1);
        Check.due("60 still", x.output(-1), 60);
        Check.due("place", x.place(1), 3);
        Check.due("alive", x.status(1), 1);
        Check.due("the first", x.output(0), 0);
    }

    /** "12 SELF: register a becomes its id." */
    private static void selfOfTheEighth() {
        MailYard x = new MailYard();
        Check.program(x, 0, Check.SELF, 0, 0, Check.SELF, 3, 0, Check.TAKE, 1, 0);
        for (int i = 0; i < 8; i++) {
            x.spawn(0, 99);
        }
        x.run(24);
        for (int id = 1; id <= 8; id++) {
            Check.due("register 0", x.register(id, 0), id);
            Check.due("register 3", x.register(id, 3), id);
        }
    }

    /** "13 LATER: a timer .. ends b ticks from now (b at least 1 ..)" */
    private static void laterByOneTick() {
        MailYard x = new MailYard();
        Check.program(x, 0, Check.LATER, 0, 1, Check.LATER, 0, 2, Check.GOTO, 0, 2);
        Check.ticks(x, 7);
        x.spawn(0, Check.LEAST);
        x.run(2);
        Check.due("two", x.timers(), 2);
        Check.due("no message yet", x.mail(1), 0);
        Check.due("the first", x.tick(), 1);
        Check.due("its message", x.message(1, 0), Check.LEAST);
        Check.due("one", x.mail(1), 1);
        Check.due("the second", x.tick(), 1);
        Check.due("two", x.mail(1), 2);
        Check.due("no more", x.tick(), 0);
    }

    /** "none is made when there are 10" */
    private static void laterWithTenTimers() {
        MailYard x = new MailYard();
        Check.program(x, 0, Check.LATER, 0, 2, Check.GOTO, 0, 0);
        x.spawn(0, 1);
        x.run(18);
        x.load(0, Check.SET, 0, 2);
        x.load(1, Check.LATER, 0, 3);
        x.load(2, Check.SET, 0, 3);
        x.load(3, Check.LATER, 0, 1);
        x.load(4, Check.GOTO, 0, 4);
        x.run(2);
        Check.due("the tenth", x.timers(), 10);
        x.run(2);
        Check.due("no eleventh", x.timers(), 10);
        Check.due("place", x.place(1), 4);
        Check.due("it would end now", x.tick(), 0);
        Check.due("nine", x.tick(), 9);
        Check.due("the tenth", x.tick(), 1);
        Check.due("its message", x.message(1, 9), 2);
        Check.due("ten in all", x.mail(1), 10);
    }

    private static void laterByManyTicks() {
        MailYard x = new MailYard();
        Check.program(x, 0, Check.LATER, 0, Check.GREATEST, Check.LATER, 0, Check.GREATEST - 1,
                Check.GOTO, 0, 2);
        Check.ticks(x, 3);
        x.spawn(0, 0);
        x.run(2);
        for (int i = 0; i < 300; i++) {
            Check.due("far from its end", x.tick(), 0);
        }
        Check.due("both are there still", x.timers(), 2);
        Check.due("no mail", x.mail(1), 0);
    }

    /** "An empty cell, and a place that is no cell, end it with the reason -5." */
    private static void emptyCell() {
        int[] cells = {0, 47};
        for (int cell : cells) {
            MailYard x = endOfLinked(cell);
            Check.due("reason", x.message(2, 0), -5);
        }
    }

    private static void placeThatIsNoCell() {
        MailYard x = endOfLinked(48);
        Check.due("reason at 48", x.message(2, 0), -5);
        MailYard y = endOfLinked(49);
        Check.due("reason at 49", y.message(2, 0), -5);
    }

    /** One that waits, then comes to a place, linked with 2, which traps. */
    private static MailYard endOfLinked(int place) {
        MailYard x = new MailYard();
        boolean isCell = place < 48;
        int entry = isCell ? 10 : place - 2;
        Check.program(x, entry, Check.TAKE, 1, 1);
        if (isCell) {
            Check.program(x, 12, Check.GOTO, 0, place);
        }
        Check.program(x, 20, Check.TRAP, 0, 1, Check.LINK, 0, 0, Check.TAKE, 1, 0);
        x.spawn(entry, 0);
        x.spawn(20, 1);
        x.run(4);
        x.tick();
        x.run(isCell ? 1 : 0);
        Check.due("place", x.place(1), place);
        Check.due("alive", x.status(1), 1);
        Check.due("a step", x.step(), 1);
        Check.due("ended", x.status(1), 0);
        Check.due("its exit", x.mail(2), 1);
        return x;
    }
}
