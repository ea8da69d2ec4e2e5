/** Exits, endings and those that begin others anew. */
public final class EndingTest {
    private EndingTest() {
    }

    public static void main(String[] args) {
        endReachesTheLinked();
        endWithZeroReachesOnlyTraps();
        exitUsesTheCellOfTheLink();
        exitWakesAndTakesTheLimit();
        chainOfLinks();
        ringOfLinks();
        byRisingIds();
        childrenEndThoughTheyTrap();
        grandchildrenEnd();
        beganAnew();
        beganAnewStandsAtTheEnd();
        notBegunAnewBehindZero();
        spanOfTenTicks();
        tooOftenEndsWithMinusThree();
        supervisorLinkedWithItsChild();
        trappingSupervisorBeginsAnewAndGetsTheExit();
        eightAlive();
        firstReasonCounts();
        childrenEndByRisingIds();
        childrenBeforeTheSupervisor();
        tooOftenEndsThoughItTraps();
        nothingOfTheEndedStays();
        Check.finish();
    }

    private static void endReachesTheLinked() {
        MailYard x = new MailYard();
        Check.program(x, 0, Check.LINK, 0, 0, Check.TAKE, 1, 0, Check.STOP, 1, 0);
        x.spawn(1, 0);
        x.spawn(0, 1);
        x.run(3);
        x.inject(1, 4);
        x.run(2);
        Check.due("1 ended", x.status(1), 0);
        Check.due("2 ended", x.status(2), 0);
        Check.due("room", x.room(), 24);
    }

    private static void endWithZeroReachesOnlyTraps() {
        MailYard x = new MailYard();
        Check.program(x, 0, Check.LINK, 0, 0, Check.TAKE, 1, 0, Check.STOP, 1, 0);
        Check.program(x, 10, Check.TRAP, 0, 1, Check.LINK, 0, 0, Check.TAKE, 1, 0);
        x.spawn(1, 0);
        x.spawn(0, 1);
        x.spawn(10, 1);
        x.run(6);
        Check.due("links", x.room(), 22);
        x.inject(1, 0);
        x.run(2);
        Check.due("2 is alive", x.status(2), 2);
        Check.due("2 got nothing", x.mail(2), 0);
        Check.due("3 is runnable", x.status(3), 1);
        Check.due("3 got a 0", x.mail(3), 1);
        Check.due("room", x.room(), 23);
        x.step();
        Check.due("value", x.register(3, 1), 0);
        Check.due("where from", x.register(3, 3), 1);
    }

    private static void exitUsesTheCellOfTheLink() {
        MailYard x = new MailYard();
        Check.program(x, 0, Check.TRAP, 0, 1, Check.LINK, 0, 0, Check.GOTO, 0, 2);
        Check.program(x, 10, Check.GOTO, 0, 10, Check.STOP, 0, 0);
        x.spawn(10, 6);
        x.spawn(0, 1);
        x.run(8);
        for (int i = 0; i < 23; i++) {
            Check.due("fill", x.inject(2, 50), 1);
        }
        Check.due("full", x.room(), 0);
        x.load(10, Check.GOTO, 0, 11);
        for (int i = 0; i < 8 && x.status(1) != 0; i++) {
            x.step();
        }
        Check.due("ended", x.status(1), 0);
        Check.due("not lost", x.lost(), 0);
        Check.due("mail", x.mail(2), 24);
        Check.due("reason", x.message(2, 23), 6);
        Check.due("full still", x.room(), 0);
    }

    private static void exitWakesAndTakesTheLimit() {
        MailYard x = new MailYard();
        Check.program(x, 0, Check.TRAP, 0, 1, Check.LINK, 0, 0, Check.TAKE, 1, 7);
        Check.program(x, 10, Check.TAKE, 1, 0, Check.STOP, 0, 0);
        x.spawn(10, 6);
        x.spawn(0, 1);
        x.run(4);
        Check.due("limit", x.timers(), 1);
        x.inject(1, 0);
        x.run(2);
        Check.due("limit is no more", x.timers(), 0);
        Check.due("runnable", x.status(2), 1);
        Check.due("queue", Check.queueDigits(x), 2);
    }

    private static void chainOfLinks() {
        MailYard x = new MailYard();
        Check.program(x, 0, Check.LINK, 0, 0, Check.TAKE, 1, 0, Check.STOP, 1, 0);
        x.spawn(1, 0);
        for (int i = 1; i < 7; i++) {
            x.spawn(0, i);
        }
        Check.program(x, 10, Check.TRAP, 0, 1, Check.LINK, 0, 0, Check.TAKE, 2, 0);
        x.spawn(10, 7);
        x.run(16);
        Check.due("links", x.room(), 17);
        x.inject(1, 33);
        x.run(2);
        for (int id = 1; id <= 7; id++) {
            Check.due("ended " + id, x.status(id), 0);
        }
        Check.due("the last traps", x.message(8, 0), 33);
        x.step();
        Check.due("where from", x.register(8, 3), 7);
        Check.due("room", x.room(), 24);
    }

    private static void ringOfLinks() {
        MailYard x = new MailYard();
        Check.program(x, 0, Check.LINK, 0, 0, Check.TAKE, 1, 0, Check.LINK, 1, 0, Check.STOP, 1, 0);
        x.spawn(1, 0);
        x.spawn(0, 1);
        x.spawn(0, 2);
        x.run(5);
        x.inject(3, 1);
        x.run(2);
        Check.due("ring", x.room(), 21);
        x.step();
        for (int id = 1; id <= 3; id++) {
            Check.due("ended " + id, x.status(id), 0);
        }
        Check.due("room", x.room(), 24);
        Check.due("nobody", x.queue(0), 0);
    }

    private static void byRisingIds() {
        MailYard x = new MailYard();
        Check.program(x, 0, Check.TAKE, 1, 0, Check.STOP, 0, 0);
        Check.program(x, 10, Check.TRAP, 0, 1, Check.TAKE, 1, 0, Check.LINK, 1, 0, Check.TAKE, 1, 0);
        x.spawn(47, 0);
        x.spawn(47, 0);
        x.run(2);
        x.spawn(0, 9);
        x.spawn(10, 0);
        x.spawn(10, 0);
        x.spawn(10, 0);
        x.run(7);
        int[] order = {6, 4, 5};
        for (int id : order) {
            x.inject(id, 3);
            x.run(3);
        }
        Check.due("links", x.room(), 21);
        x.inject(3, 0);
        x.run(2);
        Check.due("woken by rising ids", Check.queueDigits(x), 456);
    }

    private static void childrenEndThoughTheyTrap() {
        MailYard x = new MailYard();
        Check.program(x, 0, Check.CHILD, 1, 10, Check.CHILD, 2, 10, Check.TAKE, 0, 0, Check.STOP, 0, 0);
        Check.program(x, 10, Check.TRAP, 0, 1, Check.TAKE, 0, 0);
        x.spawn(0, 0);
        x.run(7);
        x.inject(1, 0);
        x.run(2);
        Check.due("supervisor ended with 0", x.status(1), 0);
        Check.due("child", x.status(2), 0);
        Check.due("child", x.status(3), 0);
        Check.due("none begun anew", x.status(4), MailYard.BAD);
    }

    private static void grandchildrenEnd() {
        MailYard x = new MailYard();
        Check.program(x, 0, Check.CHILD, 1, 10, Check.TAKE, 0, 0, Check.STOP, 0, 0);
        Check.program(x, 10, Check.CHILD, 1, 20, Check.TAKE, 0, 0);
        Check.program(x, 20, Check.TAKE, 0, 0);
        Check.program(x, 30, Check.TRAP, 0, 1, Check.SET, 1, 3, Check.LINK, 1, 0, Check.TAKE, 0, 0);
        x.spawn(0, 0);
        x.run(5);
        x.spawn(30, 0);
        x.run(4);
        Check.due("linked with the grandchild", x.linked(4, 3), true);
        x.inject(1, 5);
        x.run(2);
        for (int id = 1; id <= 3; id++) {
            Check.due("ended " + id, x.status(id), 0);
        }
        Check.due("its reason", x.message(4, 0), -2);
        Check.due("none begun anew", x.status(5), MailYard.BAD);
    }

    private static void beganAnew() {
        MailYard x = new MailYard();
        Check.program(x, 0, Check.SET, 1, 40, Check.CHILD, 1, 10, Check.TAKE, 2, 0);
        Check.program(x, 10, Check.TRAP, 0, 1, Check.SET, 0, 1, Check.SET, 2, 2, Check.LATER, 0, 9,
                Check.TAKE, 1, 0, Check.STOP, 1, 0);
        x.spawn(0, 0);
        x.run(8);
        x.inject(2, -7);
        x.inject(2, 1);
        x.run(2);
        Check.due("ended", x.status(2), 0);
        Check.due("anew", x.status(3), 1);
        Check.due("entry", x.place(3), 10);
        Check.due("argument", x.register(3, 0), 40);
        Check.due("registers", x.register(3, 2), 0);
        Check.due("mail", x.mail(3), 0);
        Check.due("timers", x.timers(), 0);
        Check.due("supervisor", x.supervisor(3), 1);
        Check.due("restarts", x.restarts(1), 1);
        Check.due("the supervisor's register stays", x.register(1, 1), 2);
        Check.due("the supervisor waits on", x.status(1), 2);
        x.load(10, Check.LINK, 3, 0);
        x.step();
        Check.due("the new one does not trap", x.status(3), 0);
        Check.due("and is begun anew in turn", x.status(4), 1);
        Check.due("room", x.room(), 24);
    }

    private static void beganAnewStandsAtTheEnd() {
        MailYard x = new MailYard();
        Check.program(x, 0, Check.CHILD, 1, 10, Check.GOTO, 0, 1);
        Check.program(x, 10, Check.SET, 1, 1, Check.SET, 1, 1, Check.SET, 1, 1, Check.SET, 1, 1, Check.STOP, 1, 0);
        x.spawn(0, 0);
        x.run(5);
        x.spawn(1, 0);
        Check.due("before", Check.queueDigits(x), 213);
        x.run(5);
        Check.due("behind", Check.queueDigits(x), 134);
        x.run(10);
        Check.due("turn of the new one", Check.queueDigits(x), 413);
        x.run(4);
        Check.due("its turn is whole", Check.queueDigits(x), 413);
        x.step();
        Check.due("behind", Check.queueDigits(x), 135);
    }

    private static void notBegunAnewBehindZero() {
        MailYard x = new MailYard();
        Check.program(x, 0, Check.CHILD, 1, 10, Check.TAKE, 2, 0);
        Check.program(x, 10, Check.STOP, 1, 0);
        x.spawn(0, 0);
        x.run(40);
        Check.due("ended", x.status(2), 0);
        Check.due("none anew", x.status(3), MailYard.BAD);
        Check.due("alive", x.status(1), 2);
        Check.due("restarts", x.restarts(1), 0);
    }

    /** A supervisor 1 that waits, its child 2 that stops with what it is told. */
    private static MailYard watchedOver() {
        MailYard x = new MailYard();
        Check.program(x, 0, Check.CHILD, 1, 10, Check.TAKE, 2, 0);
        Check.program(x, 10, Check.TAKE, 1, 0, Check.STOP, 1, 0);
        x.spawn(0, 0);
        x.run(3);
        return x;
    }

    private static void endChild(MailYard x, int id) {
        Check.due("child takes", x.inject(id, 1), 1);
        x.run(3);
    }

    private static void spanOfTenTicks() {
        MailYard x = watchedOver();
        endChild(x, 2);
        Check.ticks(x, 4);
        endChild(x, 3);
        endChild(x, 4);
        Check.ticks(x, 6);
        endChild(x, 5);
        Check.due("the first was ten ticks ago", x.status(1), 2);
        Check.due("begun anew", x.restarts(1), 4);
        Check.ticks(x, 4);
        endChild(x, 6);
        Check.due("two more were ten ticks ago", x.restarts(1), 5);
        endChild(x, 7);
        Check.due("and the other of them", x.restarts(1), 6);
        Check.ticks(x, 5);
        endChild(x, 8);
        Check.due("three within nine ticks", x.status(1), 0);
        Check.due("none anew", x.status(9), MailYard.BAD);

        MailYard y = watchedOver();
        Check.ticks(y, 3);
        endChild(y, 2);
        endChild(y, 3);
        endChild(y, 4);
        Check.ticks(y, 9);
        endChild(y, 5);
        Check.due("nine ticks are not ten", y.status(1), 0);
    }

    private static void tooOftenEndsWithMinusThree() {
        MailYard x = watchedOver();
        Check.program(x, 20, Check.TRAP, 0, 1, Check.LINK, 0, 0, Check.TAKE, 1, 0);
        x.spawn(20, 1);
        x.run(3);
        endChild(x, 2);
        endChild(x, 4);
        endChild(x, 5);
        Check.due("three", x.restarts(1), 3);
        endChild(x, 6);
        Check.due("supervisor ended", x.status(1), 0);
        Check.due("with the reason -3", x.register(3, 1) * 100 + x.register(3, 3), -3 * 100 + 1);
        Check.due("none anew", x.status(7), MailYard.BAD);
    }

    private static void supervisorLinkedWithItsChild() {
        MailYard x = new MailYard();
        Check.program(x, 0, Check.CHILD, 1, 10, Check.LINK, 1, 0, Check.TAKE, 2, 0);
        Check.program(x, 10, Check.TAKE, 1, 0, Check.STOP, 1, 0);
        x.spawn(0, 0);
        x.run(4);
        x.inject(2, 8);
        x.run(2);
        Check.due("child", x.status(2), 0);
        Check.due("supervisor, by the link", x.status(1), 0);
        Check.due("it was alive still and began 3, which ended with it", x.status(3), 0);
        Check.due("no more", x.status(4), MailYard.BAD);
        Check.due("nobody", x.queue(0), 0);
        Check.due("room", x.room(), 24);
    }

    private static void trappingSupervisorBeginsAnewAndGetsTheExit() {
        MailYard x = new MailYard();
        Check.program(x, 0, Check.TRAP, 0, 1, Check.CHILD, 1, 10, Check.LINK, 1, 0, Check.TAKE, 2, 0,
                Check.TAKE, 2, 0);
        Check.program(x, 10, Check.TAKE, 1, 0, Check.STOP, 1, 0);
        x.spawn(0, 0);
        x.run(5);
        x.inject(2, 8);
        x.run(2);
        Check.due("exit", x.message(1, 0), 8);
        Check.due("anew", x.supervisor(3), 1);
        Check.due("not linked anew", x.linked(1, 3), false);
        Check.due("the exit came first", Check.queueDigits(x), 13);
    }

    private static void eightAlive() {
        MailYard x = new MailYard();
        Check.program(x, 0, Check.CHILD, 1, 10, Check.TAKE, 2, 0);
        Check.program(x, 10, Check.TAKE, 1, 0, Check.STOP, 1, 0);
        x.spawn(0, 0);
        for (int i = 0; i < 6; i++) {
            x.spawn(1, 0);
        }
        x.run(40);
        Check.due("full", x.spawn(0, 0), MailYard.FULL);
        x.inject(8, 1);
        x.run(2);
        Check.due("ended", x.status(8), 0);
        Check.due("anew in its stead", x.status(9), 1);
        Check.due("full still", x.spawn(0, 0), MailYard.FULL);
    }

    /** The child is linked with its supervisor: the exit comes up before the end of the children. */
    private static void firstReasonCounts() {
        MailYard x = linkedChildAfterStop(6);
        Check.due("one exit", x.mail(3), 1);
        Check.due("the reason of the link", x.message(3, 0), 6);
        MailYard y = linkedChildAfterStop(0);
        Check.due("one exit", y.mail(3), 1);
        Check.due("behind a 0 the end of the children", y.message(3, 0), -2);
    }

    /** A supervisor 1 that stopped, linked with its child 2, whose exit reached 3. */
    private static MailYard linkedChildAfterStop(int reason) {
        MailYard x = new MailYard();
        Check.program(x, 0, Check.CHILD, 1, 10, Check.LINK, 1, 0, Check.TAKE, 2, 0, Check.STOP, 2, 0);
        Check.program(x, 10, Check.TAKE, 1, 0);
        Check.program(x, 20, Check.TRAP, 0, 1, Check.LINK, 0, 0, Check.TAKE, 1, 0);
        x.spawn(0, 0);
        x.run(4);
        x.spawn(20, 2);
        x.run(3);
        x.inject(1, reason);
        x.run(2);
        return x;
    }

    private static void childrenEndByRisingIds() {
        MailYard x = new MailYard();
        Check.program(x, 0, Check.CHILD, 1, 10, Check.CHILD, 2, 10, Check.TAKE, 0, 0, Check.STOP, 0, 0);
        Check.program(x, 10, Check.TAKE, 0, 0);
        Check.program(x, 20, Check.TRAP, 0, 1, Check.SET, 1, 3, Check.LINK, 1, 0, Check.SET, 1, 2,
                Check.LINK, 1, 0, Check.TAKE, 2, 0, Check.TAKE, 2, 0);
        x.spawn(0, 0);
        x.run(5);
        x.spawn(20, 0);
        x.run(6);
        x.inject(1, 0);
        x.run(2);
        Check.due("both exits", x.mail(4), 2);
        x.step();
        Check.due("of 2 first", x.register(4, 3), 2);
        x.step();
        Check.due("then of 3", x.register(4, 3), 3);
    }

    private static void childrenBeforeTheSupervisor() {
        MailYard x = new MailYard();
        Check.program(x, 0, Check.CHILD, 1, 10, Check.TAKE, 2, 0);
        Check.program(x, 10, Check.CHILD, 1, 20, Check.TAKE, 1, 0, Check.STOP, 1, 0);
        Check.program(x, 20, Check.TAKE, 0, 0);
        Check.program(x, 30, Check.TRAP, 0, 1, Check.LINK, 0, 0, Check.TAKE, 1, 0, Check.LINK, 1, 0,
                Check.TAKE, 1, 0);
        x.spawn(0, 0);
        x.run(5);
        x.spawn(30, 1);
        x.run(3);
        int[] children = {2, 5, 7};
        for (int id : children) {
            x.inject(id, 1);
            x.run(5);
        }
        Check.due("begun anew", x.restarts(1), 3);
        x.inject(4, 10);
        x.run(3);
        Check.due("linked with the grandchild", x.linked(4, 10), true);
        x.inject(9, 1);
        x.run(2);
        Check.due("both exits", x.mail(4), 2);
        Check.due("that of the grandchild first", x.message(4, 0), -2);
        Check.due("then that of the supervisor", x.message(4, 1), -3);
    }

    private static void tooOftenEndsThoughItTraps() {
        MailYard x = new MailYard();
        Check.program(x, 0, Check.TRAP, 0, 1, Check.SET, 1, 5, Check.CHILD, 1, 10, Check.TAKE, 2, 0);
        Check.program(x, 10, Check.STOP, 0, 0);
        x.spawn(0, 0);
        Check.due("four of 1, one of each child", x.run(40), 8);
        Check.due("ended", x.status(1), 0);
        Check.due("the last child", x.status(5), 0);
        Check.due("no more", x.status(6), MailYard.BAD);
    }

    /** More actors than can be alive at once, each of which leaves all that one can leave. */
    private static void nothingOfTheEndedStays() {
        MailYard x = new MailYard();
        Check.program(x, 0, Check.TRAP, 0, 1, Check.SET, 1, 5, Check.SET, 2, 6, Check.SET, 3, 7,
                Check.CHILD, 1, 10, Check.GOTO, 0, 5);
        Check.program(x, 10, Check.SET, 1, 8, Check.TRAP, 0, 1, Check.STOP, 0, 0);
        Check.program(x, 20, Check.LINK, 0, 0, Check.GOTO, 0, 21);
        for (int i = 0; i < 6; i++) {
            int id = x.spawn(0, 9);
            Check.due("ids", id, 5 * i + 1);
            Check.due("argument", x.register(id, 0), 9);
            for (int r = 1; r < 4; r++) {
                Check.due("register " + r, x.register(id, r), 0);
            }
            Check.due("restarts", x.restarts(id), 0);
            Check.due("mail", x.mail(id), 0);
            x.inject(id, 3);
            Check.due("its message", x.message(id, 0), 3);
            x.run(40);
            Check.due("ended", x.status(id), 0);
            Check.due("room", x.room(), 24);
        }
        for (int i = 0; i < 8; i++) {
            int id = x.spawn(20, 0);
            Check.due("restarts", x.restarts(id), 0);
            Check.due("mail", x.mail(id), 0);
        }
        Check.due("none of them traps", x.run(40), 8);
    }
}
