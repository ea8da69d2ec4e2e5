/** The instructions 0 to 13, and what ends an actor that finds none. */
public final class InstructionTest {
    private InstructionTest() {
    }

    public static void main(String[] args) {
        setAndAdd();
        less();
        goTo();
        send();
        sendToItselfAndNobody();
        takeWithRegisterThree();
        takeWaits();
        spawnAndChild();
        spawnWhenFull();
        newOneStandsBeforeTheTurnEnds();
        link();
        linkWithTheDead();
        linkWithoutRoom();
        trap();
        stop();
        put();
        self();
        emptyCellAndNoCell();
        numbersNotLookedAt();
        waitingEndsTheTurn();
        Check.finish();
    }

    private static void setAndAdd() {
        MailYard x = new MailYard();
        Check.program(x, 0, Check.SET, 1, Check.GREATEST, Check.ADD, 1, 0, Check.ADD, 0, 0,
                Check.SET, 2, Check.LEAST, Check.ADD, 2, 2);
        x.spawn(0, 3);
        x.run(2);
        Check.due("ADD wraps", x.register(1, 1), Check.LEAST + 2);
        x.step();
        Check.due("ADD to itself", x.register(1, 0), 6);
        x.step();
        Check.due("SET", x.register(1, 2), Check.LEAST);
        x.step();
        Check.due("ADD wraps to 0", x.register(1, 2), 0);
        Check.due("place", x.place(1), 5);
    }

    private static void less() {
        int[][] cases = {{1, 2, 2}, {2, 2, 1}, {3, 2, 1},
            {Check.LEAST, Check.GREATEST, 2}, {Check.GREATEST, Check.LEAST, 1}};
        for (int[] c : cases) {
            MailYard x = new MailYard();
            Check.program(x, 10, Check.SET, 1, c[0], Check.SET, 2, c[1], Check.LESS, 1, 2);
            x.spawn(10, 0);
            x.run(3);
            Check.due("LESS " + c[0] + " " + c[1], x.place(1), 12 + c[2]);
        }
        MailYard y = new MailYard();
        Check.program(y, 47, Check.LESS, 1, 0);
        y.spawn(47, 1);
        y.step();
        Check.due("LESS at the last cell", y.place(1), 49);
        y.step();
        Check.due("no cell", y.status(1), 0);
    }

    private static void goTo() {
        MailYard x = new MailYard();
        Check.program(x, 0, Check.GOTO, 0, 47);
        Check.program(x, 47, Check.GOTO, 0, 0);
        x.spawn(0, 0);
        x.step();
        Check.due("GOTO 47", x.place(1), 47);
        x.step();
        Check.due("GOTO 0", x.place(1), 0);
    }

    private static void send() {
        MailYard x = new MailYard();
        Check.program(x, 0, Check.TAKE, 1, 9);
        Check.program(x, 10, Check.SET, 1, 77, Check.SEND, 0, 1);
        x.spawn(0, 0);
        x.step();
        x.spawn(10, 1);
        x.run(2);
        Check.due("mail", x.mail(1), 1);
        Check.due("value", x.message(1, 0), 77);
        Check.due("queue", Check.queueDigits(x), 21);
        Check.due("its limit is no more", x.timers(), 0);
        Check.due("room", x.room(), 23);
        x.step();
        Check.due("2 ended", x.status(2), 0);
        x.step();
        Check.due("value", x.register(1, 1), 77);
        Check.due("where from, though it is not alive", x.register(1, 3), 2);
        Check.due("room", x.room(), 24);
    }

    private static void sendToItselfAndNobody() {
        MailYard x = new MailYard();
        int[] nobody = {Check.LEAST, -1, 0, 2, Check.GREATEST};
        x.spawn(0, 1);
        Check.program(x, 0, Check.SEND, 0, 0, Check.SET, 0, 0, Check.SEND, 0, 0, Check.GOTO, 0, 1);
        x.step();
        Check.due("to itself", x.mail(1), 1);
        for (int id : nobody) {
            x.load(1, Check.SET, 0, id);
            x.run(3);
            Check.due("to " + id, x.mail(1), 1);
        }
        Check.due("nothing happens", x.lost(), 0);
        Check.due("room", x.room(), 23);
    }

    private static void takeWithRegisterThree() {
        MailYard x = new MailYard();
        Check.program(x, 0, Check.TAKE, 3, 0, Check.TAKE, 2, 0, Check.TAKE, 0, 0);
        Check.program(x, 10, Check.SET, 1, 5, Check.SEND, 0, 1, Check.SEND, 0, 1, Check.TAKE, 0, 0);
        x.spawn(10, 2);
        x.spawn(0, 8);
        x.run(5);
        Check.due("the value counts", x.register(2, 3), 5);
        Check.due("place", x.place(2), 1);
        x.step();
        Check.due("value", x.register(2, 2), 5);
        Check.due("where from", x.register(2, 3), 1);
        x.step();
        Check.due("none left", x.status(2), 2);
        Check.due("registers stay", x.register(2, 0), 8);
        Check.due("registers stay", x.register(2, 3), 1);
    }

    private static void takeWaits() {
        MailYard x = new MailYard();
        Check.program(x, 5, Check.TAKE, 1, 0);
        x.spawn(5, 0);
        Check.due("counts as a step", x.step(), 1);
        Check.due("waits", x.status(1), 2);
        Check.due("place stays", x.place(1), 5);
        Check.due("leaves the queue", x.queue(0), 0);
        Check.due("no limit for 0", x.timers(), 0);
        x.load(5, Check.TAKE, 1, -4);
        x.inject(1, 3);
        x.load(6, Check.GOTO, 0, 5);
        x.run(3);
        Check.due("waits again", x.status(1), 2);
        Check.due("no limit for -4", x.timers(), 0);
        Check.due("value", x.register(1, 1), 3);
    }

    private static void spawnAndChild() {
        MailYard x = new MailYard();
        Check.program(x, 0, Check.SET, 2, 31, Check.SPAWN, 2, 20, Check.SET, 1, 32, Check.CHILD, 1, 47,
                Check.TAKE, 0, 0);
        x.spawn(0, 0);
        x.run(2);
        Check.due("id", x.register(1, 2), 2);
        Check.due("entry", x.place(2), 20);
        Check.due("argument", x.register(2, 0), 31);
        Check.due("supervisor", x.supervisor(2), 0);
        x.run(2);
        Check.due("id", x.register(1, 1), 3);
        Check.due("entry", x.place(3), 47);
        Check.due("argument", x.register(3, 0), 32);
        Check.due("supervisor", x.supervisor(3), 1);
        Check.due("not linked", x.linked(1, 3), false);
        Check.due("queue", Check.queueDigits(x), 123);
    }

    private static void spawnWhenFull() {
        MailYard x = new MailYard();
        Check.program(x, 0, Check.SPAWN, 0, 20, Check.CHILD, 1, 20, Check.GOTO, 0, 2);
        for (int i = 0; i < 8; i++) {
            x.spawn(0, 5);
        }
        x.run(2);
        Check.due("SPAWN when full", x.register(1, 0), -1);
        Check.due("CHILD when full", x.register(1, 1), -1);
        Check.due("place", x.place(1), 2);
        Check.due("none was begun", x.status(9), MailYard.BAD);
        x.load(1, Check.STOP, 0, 0);
        x.run(5);
        Check.due("ended", x.status(2), 0);
        x.load(1, Check.GOTO, 0, 1);
        x.step();
        Check.due("SPAWN when there are seven", x.register(3, 0), 9);
    }

    private static void newOneStandsBeforeTheTurnEnds() {
        MailYard x = new MailYard();
        Check.program(x, 0, Check.SET, 1, 0, Check.SET, 1, 0, Check.SET, 1, 0, Check.SET, 1, 0,
                Check.SPAWN, 1, 0);
        x.spawn(0, 0);
        x.run(5);
        Check.due("the new one, then this one", Check.queueDigits(x), 21);
    }

    private static void link() {
        MailYard x = new MailYard();
        Check.program(x, 0, Check.LINK, 0, 0, Check.LINK, 0, 0, Check.SELF, 1, 0, Check.LINK, 1, 0,
                Check.GOTO, 0, 4);
        x.spawn(4, 0);
        x.spawn(0, 1);
        x.run(6);
        Check.due("linked", x.linked(2, 1), true);
        Check.due("a cell", x.room(), 23);
        x.step();
        Check.due("again: nothing", x.room(), 23);
        Check.due("register stays", x.register(2, 0), 1);
        x.run(2);
        Check.due("with itself: nothing", x.room(), 23);
        Check.due("not with itself", x.linked(2, 2), false);
        Check.due("alive", x.status(2), 1);
        Check.due("register stays", x.register(2, 1), 2);
    }

    private static void linkWithTheDead() {
        int[] dead = {Check.LEAST, -1, 0, 1, 3, Check.GREATEST};
        for (int id : dead) {
            MailYard x = new MailYard();
            Check.program(x, 0, Check.LINK, 0, 0, Check.TRAP, 0, 1, Check.LINK, 0, 0, Check.TAKE, 2, 0,
                    Check.GOTO, 0, 4);
            x.spawn(5, 0);
            x.step();
            x.spawn(0, id);
            x.step();
            Check.due("it ends", x.status(2), 0);
            x.spawn(1, id == 3 ? 4 : id);
            x.run(2);
            Check.due("it traps", x.mail(3), 1);
            Check.due("reason", x.message(3, 0), -1);
            Check.due("place", x.place(3), 3);
            Check.due("register stays", x.register(3, 0), id == 3 ? 4 : id);
            Check.due("room", x.room(), 23);
            x.step();
            Check.due("reason", x.register(3, 2), -1);
            Check.due("where from", x.register(3, 3), id == 3 ? 4 : id);
        }
    }

    private static void linkWithoutRoom() {
        MailYard x = new MailYard();
        Check.program(x, 0, Check.TRAP, 0, 1, Check.SET, 1, 2, Check.LINK, 1, 0, Check.LINK, 0, 0,
                Check.GOTO, 0, 4);
        x.spawn(0, 50);
        x.spawn(4, 0);
        for (int i = 0; i < 24; i++) {
            x.inject(2, 1);
        }
        x.run(3);
        Check.due("not linked", x.linked(1, 2), false);
        Check.due("register becomes -1", x.register(1, 1), -1);
        x.step();
        Check.due("the exit of the dead needs a cell", x.lost(), 1);
        Check.due("mail", x.mail(1), 0);
        Check.due("register stays", x.register(1, 0), 50);
        Check.due("alive", x.status(1), 1);
        x.load(0, Check.SELF, 2, 0);
        x.load(1, Check.LINK, 2, 0);
        x.spawn(0, 0);
        x.run(8);
        Check.due("itself is named before the room", x.register(3, 2), 3);
    }

    private static void trap() {
        for (int b : new int[] {1, -1, Check.LEAST, Check.GREATEST, 0}) {
            MailYard x = new MailYard();
            Check.program(x, 0, Check.TRAP, 99, 1, Check.TRAP, -99, b, Check.LINK, 0, 0, Check.GOTO, 0, 3);
            x.spawn(0, 0);
            x.run(3);
            Check.due("TRAP " + b, x.status(1), b == 0 ? 0 : 1);
        }
    }

    private static void stop() {
        MailYard x = new MailYard();
        Check.program(x, 0, Check.LATER, 0, 1, Check.STOP, 0, 0);
        x.spawn(0, 0);
        x.inject(1, 3);
        x.run(2);
        Check.due("ended", x.status(1), 0);
        Check.due("messages go", x.room(), 24);
        Check.due("timers go", x.timers(), 0);
        Check.due("nobody in the queue", x.queue(0), 0);
        Check.due("no tick", x.tick(), 0);
    }

    private static void put() {
        MailYard x = new MailYard();
        Check.program(x, 0, Check.SET, 3, 44, Check.PUT, 3, 0);
        x.spawn(0, 0);
        x.run(2);
        Check.due("value", x.output(0), 44);
        Check.due("author", x.author(0), 1);
    }

    private static void self() {
        MailYard x = new MailYard();
        Check.program(x, 0, Check.SELF, 3, 99, Check.GOTO, 0, 1);
        x.spawn(0, 0);
        x.spawn(0, 0);
        x.run(6);
        Check.due("1", x.register(1, 3), 1);
        Check.due("2", x.register(2, 3), 2);
    }

    private static void emptyCellAndNoCell() {
        MailYard x = new MailYard();
        Check.program(x, 0, Check.TRAP, 0, 1, Check.SPAWN, 1, 20, Check.LINK, 1, 0, Check.TAKE, 2, 0,
                Check.PUT, 2, 0, Check.GOTO, 0, 1);
        x.spawn(0, 0);
        x.run(5);
        Check.due("an empty cell", x.message(1, 0), -5);
        x.load(1, Check.SPAWN, 1, 47);
        x.load(47, Check.SET, 2, 2);
        x.run(7);
        Check.due("a place that is no cell", x.message(1, 0), -5);
        Check.due("put out", x.output(0), -5);
    }

    private static void numbersNotLookedAt() {
        MailYard x = new MailYard();
        Check.program(x, 0, Check.GOTO, Check.LEAST, 1, Check.TRAP, Check.GREATEST, Check.LEAST,
                Check.SELF, 1, Check.LEAST,
                Check.PUT, 1, Check.GREATEST, Check.LINK, 1, Check.LEAST, Check.STOP, 1, Check.LEAST);
        x.spawn(0, 0);
        Check.due("all are done", x.run(40), 6);
        Check.due("ended", x.status(1), 0);
        Check.due("put", x.output(0), 1);
    }

    private static void waitingEndsTheTurn() {
        MailYard x = new MailYard();
        Check.program(x, 0, Check.SET, 1, 0, Check.SET, 1, 0, Check.SET, 1, 0, Check.TAKE, 1, 0,
                Check.GOTO, 0, 4);
        Check.program(x, 10, Check.GOTO, 0, 10);
        x.spawn(0, 0);
        x.run(4);
        Check.due("waits", x.status(1), 2);
        x.inject(1, 1);
        x.spawn(10, 0);
        x.run(4);
        Check.due("four of a new turn", Check.queueDigits(x), 12);
        x.step();
        Check.due("the fifth", Check.queueDigits(x), 21);
        x.run(4);
        x.load(10, Check.TAKE, 1, 0);
        x.step();
        Check.due("waits at the fifth", Check.queueDigits(x), 1);
    }
}
