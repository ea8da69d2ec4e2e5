/** How much a yard holds, and messages and turns at their bounds: by the sentences of "Terms". */
public final class BoundaryStateTest {
    private BoundaryStateTest() {
    }

    public static void main(String[] args) {
        everyCellIsDone();
        noCellBesideThem();
        idsAreNeverUsedAgain();
        eightAliveBySpawn();
        eightAliveByInstruction(Check.SPAWN);
        eightAliveByInstruction(Check.CHILD);
        registersAtFirst();
        mailboxOfAllCells();
        mailboxThatIsEmpty();
        roomOfMessages();
        roomOfLinks();
        roomOfMessagesAndALink();
        sixtyOutputs();
        tenTimers();
        tenTimersOfSeveralActors();
        timersAreNumberedAsMade();
        messageToOneNotAlive();
        messageWithTheLastCell();
        messageToOneThatWaitsWithoutACell();
        messageTakesItsLimitAlone();
        turnOfFive();
        turnAloneInTheQueue();
        turnIsNotBegunAnewByCalls();
        turnThatEndsWaiting();
        turnThatEndsWithTheActor();
        turnOfTheNextIsWhole();
        ticksFromZero();
        callsUpTo512();
        Check.finish();
    }

    /** "CODE: 48 cells 0 .. 47, each empty or an INSTRUCTION with numbers a and b." */
    private static void everyCellIsDone() {
        MailYard x = new MailYard();
        for (int cell = 0; cell < 48; cell++) {
            Check.due("cell " + cell, x.load(cell, Check.SET, 1, 100 + cell), true);
        }
        x.spawn(0, 0);
        for (int cell = 0; cell < 48; cell++) {
            x.step();
            Check.due("done at " + cell, x.register(1, 1), 100 + cell);
        }
        Check.due("behind the last", x.place(1), 48);
        Check.due("alive still", x.status(1), 1);
        x.step();
        Check.due("48 is no cell", x.status(1), 0);
    }

    private static void noCellBesideThem() {
        MailYard x = new MailYard();
        Check.due("cell -1", x.load(-1, Check.SET, 1, 1), false);
        Check.due("cell 48", x.load(48, Check.SET, 1, 1), false);
        for (int cell = 0; cell < 48; cell++) {
            int id = x.spawn(cell, 0);
            x.step();
            Check.due("cell " + cell + " is empty still", x.status(id), 0);
        }
    }

    /** "ACTORS have IDS 1, 2, 3, .. (never used again)" */
    private static void idsAreNeverUsedAgain() {
        MailYard x = new MailYard();
        for (int id = 1; id <= 150; id++) {
            Check.due("id", x.spawn(0, 0), id);
            Check.due("its step", x.step(), id);
            Check.due("ended", x.status(id), 0);
        }
        Check.due("the first stays ended", x.status(1), 0);
        Check.due("the next never was", x.status(151), MailYard.BAD);
    }

    /** "at most 8 are ALIVE": those that wait as well as those in the queue. */
    private static void eightAliveBySpawn() {
        MailYard x = new MailYard();
        Check.program(x, 0, Check.TAKE, 1, 0, Check.STOP, 1, 0);
        for (int id = 1; id <= 8; id++) {
            Check.due("id", x.spawn(0, 0), id);
        }
        x.run(4);
        Check.due("the ninth", x.spawn(0, 0), MailYard.FULL);
        Check.due("it never was", x.status(9), MailYard.BAD);
        x.inject(1, 0);
        x.run(6);
        Check.due("one ended", x.status(1), 0);
        Check.due("seven and one more", x.spawn(0, 0), 9);
        Check.due("eight again", x.spawn(0, 0), MailYard.FULL);
        x.step();
        for (int id = 2; id <= 9; id++) {
            Check.due("alive " + id, x.status(id), 2);
        }
    }

    private static void eightAliveByInstruction(int op) {
        MailYard x = new MailYard();
        Check.program(x, 0, op, 1, 10, op, 2, 10, Check.TAKE, 0, 0);
        Check.program(x, 10, Check.TAKE, 0, 0);
        for (int i = 0; i < 6; i++) {
            x.spawn(10, 0);
        }
        x.run(6);
        x.spawn(0, 0);
        x.step();
        Check.due("seven were alive", x.register(7, 1), 8);
        Check.due("the eighth", x.status(8), 1);
        x.step();
        Check.due("eight were alive", x.register(7, 2), -1);
        Check.due("none was begun", x.status(9), MailYard.BAD);
        Check.due("it goes on", x.place(7), 2);
        Check.due("queue", Check.queueDigits(x), 78);
    }

    /** "An actor has four registers 0 .. 3 (ints, at first 0 but for register 0, its ARGUMENT)" */
    private static void registersAtFirst() {
        int[] arguments = {Check.LEAST, -1, 0, 1, Check.GREATEST};
        MailYard x = new MailYard();
        for (int i = 0; i < arguments.length; i++) {
            int id = x.spawn(0, arguments[i]);
            Check.due("argument", x.register(id, 0), arguments[i]);
            for (int r = 1; r <= 3; r++) {
                Check.due("register " + r, x.register(id, r), 0);
            }
        }
    }

    /** "a MAILBOX of messages, first in, first out (.., 0 for the outside)": it wraps around, full. */
    private static void mailboxOfAllCells() {
        MailYard x = new MailYard();
        Check.program(x, 0, Check.SET, 3, 9, Check.TAKE, 1, 0, Check.GOTO, 0, 0);
        x.spawn(0, 0);
        Check.messages(x, 1, 24);
        for (int next = 25; next <= 75; next++) {
            Check.due("no more", x.inject(1, 99), MailYard.FULL);
            Check.due("mail", x.mail(1), 24);
            x.run(3);
            Check.due("first in, first out", x.register(1, 1), next - 24);
            Check.due("from the outside", x.register(1, 3), 0);
            Check.due("one more", x.inject(1, next), 1);
            Check.due("it is the last", x.message(1, 23), next);
        }
        for (int k = 0; k < 24; k++) {
            Check.due("message " + k, x.message(1, k), 52 + k);
        }
        Check.due("none behind the last", x.message(1, 24), 0);
    }

    private static void mailboxThatIsEmpty() {
        MailYard x = new MailYard();
        Check.program(x, 0, Check.TAKE, 1, 0, Check.GOTO, 0, 0);
        x.spawn(0, 0);
        Check.due("no mail", x.mail(1), 0);
        Check.due("no message", x.message(1, 0), 0);
        x.inject(1, 5);
        Check.due("one", x.mail(1), 1);
        x.step();
        Check.due("taken", x.register(1, 1), 5);
        Check.due("empty again", x.mail(1), 0);
        Check.due("no message", x.message(1, 0), 0);
        x.run(2);
        Check.due("it waits", x.status(1), 2);
        Check.due("room", x.room(), 24);
    }

    /** "ROOM: there are 24 CELLS; every message in a mailbox takes one": all mailboxes together. */
    private static void roomOfMessages() {
        MailYard x = new MailYard();
        Check.program(x, 0, Check.TAKE, 1, 0, Check.STOP, 1, 0);
        for (int i = 0; i < 3; i++) {
            x.spawn(0, 0);
        }
        for (int i = 0; i < 24; i++) {
            Check.due("free", x.room(), 24 - i);
            Check.due("message " + i, x.inject(i % 3 + 1, i), 1);
        }
        Check.due("none free", x.room(), 0);
        for (int id = 1; id <= 3; id++) {
            Check.due("no more for " + id, x.inject(id, 0), MailYard.FULL);
            Check.due("mail of " + id, x.mail(id), 8);
        }
        x.step();
        Check.due("one free", x.room(), 1);
        Check.due("for any", x.inject(3, 0), 1);
        Check.due("none free", x.room(), 0);
        x.step();
        Check.due("those of the ended are free", x.room(), 7);
    }

    /** "and every link one": 8 actors could be linked in 28 ways. */
    private static void roomOfLinks() {
        MailYard x = new MailYard();
        // It links with the ids from its argument down to 1.
        Check.program(x, 0, Check.SET, 1, -1, Check.LINK, 0, 0, Check.ADD, 0, 1, Check.LESS, 2, 0,
                Check.TAKE, 1, 0, Check.GOTO, 0, 1);
        x.spawn(4, 0);
        for (int id = 2; id <= 7; id++) {
            x.spawn(0, id - 1);
        }
        for (int i = 0; i < 4; i++) {
            x.run(40);
        }
        Check.due("all wait", x.queue(0), 0);
        Check.due("21 links", x.room(), 3);
        x.spawn(0, 7);
        x.run(6);
        Check.due("23 links", x.room(), 1);
        x.run(4);
        Check.due("24 links", x.room(), 0);
        Check.due("the last", x.linked(8, 5), true);
        Check.due("its register stays", x.register(8, 0), 5);
        x.run(4);
        Check.due("no cell for one more", x.linked(8, 4), false);
        Check.due("register", x.register(8, 0), -1);
        Check.due("alive", x.status(8), 1);
        Check.due("nor for a message", x.inject(1, 0), MailYard.FULL);
    }

    private static void roomOfMessagesAndALink() {
        MailYard x = new MailYard();
        Check.program(x, 0, Check.LINK, 0, 0, Check.LINK, 1, 0, Check.TAKE, 2, 0);
        Check.program(x, 10, Check.TAKE, 1, 0);
        x.spawn(10, 0);
        x.step();
        x.spawn(0, 1);
        Check.messages(x, 2, 23);
        x.step();
        Check.due("linked with the last cell", x.linked(1, 2), true);
        Check.due("none free", x.room(), 0);
        Check.due("no message", x.inject(1, 0), MailYard.FULL);
    }

    /** "OUTPUTS: values with the id that put them out, at most 60." */
    private static void sixtyOutputs() {
        MailYard x = new MailYard();
        Check.program(x, 0, Check.SET, 1, 1, Check.PUT, 0, 0, Check.ADD, 0, 1, Check.GOTO, 0, 1);
        x.spawn(0, 500);
        for (int i = 0; i < 4; i++) {
            x.run(40);
        }
        x.run(18);
        Check.due("59", x.output(-1), 59);
        Check.due("no 60th", x.output(59), 0);
        Check.due("nor its author", x.author(59), MailYard.BAD);
        x.step();
        Check.due("60", x.output(-1), 60);
        Check.due("the 60th", x.output(59), 559);
        Check.due("its author", x.author(59), 1);
        x.run(3);
        Check.due("it goes on", x.place(1), 2);
        x.spawn(1, 77);
        x.run(9);
        Check.due("60 still", x.output(-1), 60);
        Check.due("no 61st", x.output(60), 0);
        Check.due("nor its author", x.author(60), MailYard.BAD);
        Check.due("the first stays", x.output(0), 500);
        Check.due("the 60th stays", x.output(59), 559);
        Check.due("and its author", x.author(59), 1);
    }

    /** "TIMERS: at most 10" */
    private static void tenTimers() {
        MailYard x = new MailYard();
        Check.program(x, 0, Check.LATER, 0, 5, Check.GOTO, 0, 0);
        x.spawn(0, 7);
        x.run(18);
        Check.due("nine", x.timers(), 9);
        x.step();
        Check.due("ten", x.timers(), 10);
        x.tick();
        x.run(2);
        Check.due("ten still", x.timers(), 10);
        Check.due("it goes on", x.place(1), 1);
        Check.ticks(x, 3);
        Check.due("ten end", x.tick(), 10);
        Check.due("mail", x.mail(1), 10);
        Check.due("none of the refused", x.tick(), 0);
        x.run(2);
        Check.due("again one", x.timers(), 1);
    }

    private static void tenTimersOfSeveralActors() {
        MailYard x = new MailYard();
        Check.program(x, 0, Check.LATER, 0, 3, Check.LATER, 0, 3, Check.TAKE, 1, 1, Check.GOTO, 0, 3,
                Check.LATER, 0, 3, Check.TAKE, 1, 0);
        for (int i = 0; i < 4; i++) {
            x.spawn(0, i);
        }
        x.run(9);
        Check.due("nine of three", x.timers(), 9);
        x.step();
        Check.due("the tenth", x.timers(), 10);
        x.run(2);
        Check.due("neither message nor limit", x.timers(), 10);
        Check.due("the fourth waits", x.status(4), 2);
        Check.due("three limits end", x.tick(), 3);
        Check.due("seven", x.timers(), 7);
        Check.due("the fourth waits on", x.status(4), 2);
        x.run(4);
        Check.due("nine again", x.timers(), 9);
        x.step();
        Check.due("ten again", x.timers(), 10);
    }

    /** "numbered as they are made": neither by their ends nor by their actors. */
    private static void timersAreNumberedAsMade() {
        MailYard x = new MailYard();
        Check.program(x, 0, Check.LATER, 0, 1, Check.SET, 0, 2, Check.LATER, 0, 4, Check.SET, 0, 3,
                Check.LATER, 0, 3, Check.SET, 0, 4, Check.LATER, 0, 1, Check.GOTO, 0, 7);
        x.spawn(0, 1);
        x.run(3);
        Check.due("the first ends and goes", x.tick(), 1);
        x.run(4);
        Check.due("three", x.timers(), 3);
        Check.due("the one made last ends first", x.tick(), 1);
        Check.due("none", x.tick(), 0);
        Check.due("two at one time", x.tick(), 2);
        int[] values = {1, 4, 2, 3};
        for (int k = 0; k < values.length; k++) {
            Check.due("message " + k, x.message(1, k), values[k]);
        }
    }

    /** "if that one is not alive, nothing happens": it is not lost though no cell is free. */
    private static void messageToOneNotAlive() {
        int[] ids = {Check.LEAST, -1, 0, 1, 4, Check.GREATEST};
        for (int id : ids) {
            MailYard x = new MailYard();
            Check.program(x, 0, Check.SEND, 0, 0, Check.GOTO, 0, 0);
            x.spawn(47, 0);
            x.step();
            x.spawn(0, id);
            x.spawn(1, 0);
            x.step();
            Check.due("room behind one to " + id, x.room(), 24);
            Check.messages(x, 3, 24);
            x.run(3);
            Check.due("lost to " + id, x.lost(), 0);
            Check.due("mail", x.mail(2), 0);
            Check.due("queue", Check.queueDigits(x), 23);
        }
    }

    /** "otherwise, if no cell is free, it is LOST (counted); otherwise it comes into the mailbox" */
    private static void messageWithTheLastCell() {
        MailYard x = new MailYard();
        Check.program(x, 0, Check.SEND, 0, 1, Check.GOTO, 0, 0);
        Check.program(x, 10, Check.TAKE, 1, 0, Check.GOTO, 0, 10);
        x.spawn(0, 2);
        x.spawn(10, 0);
        Check.messages(x, 2, 23);
        x.step();
        Check.due("none is lost", x.lost(), 0);
        Check.due("none is free", x.room(), 0);
        Check.due("the last", x.mail(2), 24);
        x.run(2);
        Check.due("one is lost", x.lost(), 1);
        x.run(2);
        Check.due("two are lost", x.lost(), 2);
        Check.due("they do not come", x.mail(2), 24);
        x.step();
        Check.due("one is taken", x.room(), 1);
        x.run(4);
        Check.due("two more", x.room(), 3);
        x.run(2);
        Check.due("the next comes again", x.room(), 2);
        Check.due("it is not lost", x.lost(), 2);
    }

    /** A message that is lost neither wakes nor takes a limit away. */
    private static void messageToOneThatWaitsWithoutACell() {
        MailYard x = new MailYard();
        Check.program(x, 0, Check.TAKE, 1, 2, Check.GOTO, 0, 1, Check.GOTO, 0, 2);
        Check.program(x, 10, Check.SEND, 0, 1, Check.GOTO, 0, 10);
        x.spawn(0, 0);
        x.step();
        x.spawn(10, 1);
        Check.messages(x, 2, 24);
        x.step();
        Check.due("lost", x.lost(), 1);
        Check.due("it waits on", x.status(1), 2);
        Check.due("its limit stays", x.timers(), 1);
        Check.due("queue", Check.queueDigits(x), 2);
        x.tick();
        Check.due("the limit ends", x.tick(), 1);
        Check.due("place", x.place(1), 2);
        Check.due("no message", x.mail(1), 0);
    }

    /** "and if the actor waits, it is runnable, and its limit, if any, is no more": its own alone. */
    private static void messageTakesItsLimitAlone() {
        MailYard x = new MailYard();
        Check.program(x, 0, Check.LATER, 0, 5, Check.TAKE, 1, 5, Check.GOTO, 0, 2);
        Check.program(x, 10, Check.TAKE, 1, 0);
        x.spawn(0, 0);
        x.spawn(0, 0);
        x.spawn(10, 0);
        x.run(5);
        Check.due("two messages and two limits", x.timers(), 4);
        x.inject(3, 1);
        Check.due("one that had none", x.timers(), 4);
        Check.due("runnable", x.status(3), 1);
        Check.messages(x, 1, 23);
        Check.due("its limit", x.timers(), 3);
        Check.due("once in the queue", Check.queueDigits(x), 31);
        Check.ticks(x, 4);
        Check.due("both messages and the limit of 2", x.tick(), 3);
        Check.due("no cell for the messages", x.lost(), 2);
    }

    /** "When it is runnable behind that, and has done 5 instructions since it came to the front" */
    private static void turnOfFive() {
        MailYard x = new MailYard();
        Check.program(x, 0, Check.GOTO, 0, 0);
        x.spawn(0, 0);
        x.spawn(0, 0);
        for (int turn = 0; turn < 6; turn++) {
            int first = turn % 2 + 1;
            for (int i = 1; i <= 4; i++) {
                Check.due("instruction " + i, x.step(), first);
            }
            Check.due("behind 4", x.queue(0), first);
            Check.due("instruction 5", x.step(), first);
            Check.due("behind 5", x.queue(1), first);
        }
    }

    /** Its end is the front: it comes there anew. */
    private static void turnAloneInTheQueue() {
        MailYard x = new MailYard();
        Check.program(x, 0, Check.GOTO, 0, 0);
        x.spawn(0, 0);
        x.run(5);
        Check.due("alone", Check.queueDigits(x), 1);
        x.step();
        x.spawn(0, 0);
        for (int i = 2; i <= 4; i++) {
            Check.due("instruction " + i, x.step(), 1);
            Check.due("behind " + i, Check.queueDigits(x), 12);
        }
        x.step();
        Check.due("behind 5", Check.queueDigits(x), 21);
    }

    private static void turnIsNotBegunAnewByCalls() {
        MailYard x = new MailYard();
        Check.program(x, 0, Check.GOTO, 0, 0);
        x.spawn(0, 0);
        x.spawn(0, 0);
        x.run(2);
        x.inject(1, 0);
        x.tick();
        x.load(0, Check.GOTO, 0, 0);
        x.run(0);
        x.run(2);
        Check.due("behind 4", Check.queueDigits(x), 12);
        x.inject(2, 0);
        x.step();
        Check.due("behind 5", Check.queueDigits(x), 21);
    }

    private static void turnThatEndsWaiting() {
        MailYard x = new MailYard();
        Check.program(x, 0, Check.SET, 1, 0, Check.SET, 1, 0, Check.SET, 1, 0, Check.SET, 1, 0,
                Check.TAKE, 1, 0, Check.GOTO, 0, 5);
        Check.program(x, 10, Check.GOTO, 0, 10);
        x.spawn(0, 0);
        x.spawn(0, 0);
        x.spawn(10, 0);
        x.inject(2, 8);
        x.run(5);
        Check.due("the fifth waits", Check.queueDigits(x), 23);
        x.run(5);
        Check.due("the fifth takes", Check.queueDigits(x), 32);
        Check.due("taken", x.register(2, 1), 8);
        x.inject(1, 9);
        x.run(10);
        Check.due("the one that waited", Check.queueDigits(x), 132);
        x.run(4);
        Check.due("has four more", Check.queueDigits(x), 132);
        x.step();
        Check.due("and a fifth", Check.queueDigits(x), 321);
    }

    private static void turnThatEndsWithTheActor() {
        int[][] lasts = {{Check.STOP, 1, 0}, {Check.STOP, 0, 0}, {Check.LINK, 1, 0}};
        for (int[] last : lasts) {
            MailYard x = new MailYard();
            Check.program(x, 0, Check.SET, 1, 0, Check.SET, 1, 0, Check.SET, 1, 0, Check.SET, 1, 0,
                    last[0], last[1], last[2]);
            x.spawn(0, 3);
            x.spawn(0, 3);
            x.run(5);
            Check.due("the fifth ended it", Check.queueDigits(x), 2);
            Check.due("ended", x.status(1), 0);
            x.spawn(0, 3);
            Check.due("at the end", Check.queueDigits(x), 23);
        }
    }

    private static void turnOfTheNextIsWhole() {
        MailYard x = new MailYard();
        Check.program(x, 0, Check.SET, 1, 0, Check.TAKE, 1, 0);
        Check.program(x, 10, Check.SET, 1, 0, Check.STOP, 1, 0);
        Check.program(x, 20, Check.GOTO, 0, 20);
        x.spawn(0, 0);
        x.spawn(10, 0);
        x.spawn(20, 0);
        x.spawn(20, 0);
        x.run(4);
        Check.due("one waits, one ended", Check.queueDigits(x), 34);
        x.run(4);
        Check.due("behind 4", Check.queueDigits(x), 34);
        x.step();
        Check.due("behind 5", Check.queueDigits(x), 43);
    }

    /** "NOW counts ticks, at first 0." */
    private static void ticksFromZero() {
        MailYard x = new MailYard();
        Check.program(x, 0, Check.LATER, 0, 1, Check.GOTO, 0, 0);
        x.spawn(0, 0);
        for (int time = 1; time <= 100; time++) {
            x.run(2);
            Check.due("a tick at " + time, x.tick(), 1);
            if (time % 20 == 0) {
                x.load(0, Check.TAKE, 1, 0);
                x.run(40);
                x.load(0, Check.LATER, 0, 1);
                x.inject(1, 0);
            }
        }
    }

    /** "An object is used for at most 512 calls": the last of them is as good as the first. */
    private static void callsUpTo512() {
        MailYard x = new MailYard();
        x.load(0, Check.LATER, 0, 508);
        x.spawn(0, 6);
        x.step();
        for (int call = 4; call <= 510; call++) {
            Check.due("call " + call, x.tick(), 0);
        }
        Check.due("call 511", x.tick(), 1);
        Check.due("call 512", x.message(1, 0), 6);
    }
}
