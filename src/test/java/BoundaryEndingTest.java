/** Exits, endings and beginnings anew at their bounds: by the sentences of "Terms". */
public final class BoundaryEndingTest {
    private BoundaryEndingTest() {
    }

    public static void main(String[] args) {
        exitWithZero();
        exitWithOtherThanZero();
        exitHasTheCellOfItsLink();
        exitsOfSeveralLinksHaveTheirCells();
        exitThatNobodyTrapsFreesItsCell();
        exitWithoutALinkNeedsACell();
        endedOneHasNothingLeft();
        newOnesAreAsAtFirst();
        newSupervisorsBeganNone();
        linkIsGoneForGood();
        endedTwiceInOneStep();
        behindThoseThatCameUpBefore();
        linkedByRisingIds();
        linkedAndSupervised();
        childrenByRisingIds();
        childrenOfOneThatEndsWithZero();
        begunAnewUnlessZero();
        begunAnewWithItsEntryAndArgument();
        supervisorNotAliveAnyMore();
        threeInOneStep();
        fourInOneStep();
        threeInTenTicks();
        fourthEndsWithMinusThree();
        firstOfThreeTenTicksAgo();
        eachOfThreeTenTicksAgo();
        threeOfEachSupervisor();
        supervisorBegunAnewCountsFromZero();
        tooOftenGoesUpward();
        begunAnewWhenEightAreAlive();
        allEightEndInOneStep();
        Check.finish();
    }

    /** 1, which stops with its argument when told; 2, linked with it, which traps or not. */
    private static MailYard linkedPair(int reason, int traps) {
        MailYard x = new MailYard();
        Check.program(x, 0, Check.TAKE, 1, 0, Check.STOP, 0, 0);
        Check.program(x, 10, Check.TRAP, 0, traps, Check.LINK, 0, 0, Check.TAKE, 1, 0, Check.GOTO, 0, 13);
        x.spawn(0, reason);
        x.spawn(10, 1);
        x.run(4);
        Check.due("linked", x.linked(1, 2), true);
        x.inject(1, 0);
        x.run(2);
        Check.due("1 ended", x.status(1), 0);
        Check.due("the link goes", x.linked(1, 2), false);
        return x;
    }

    /** "if y traps, a message with the value r from x .. otherwise, if r is not 0, y ends with r" */
    private static void exitWithZero() {
        MailYard x = linkedPair(0, 1);
        Check.due("a message", x.mail(2), 1);
        Check.due("runnable", x.status(2), 1);
        Check.due("its cell", x.room(), 23);
        x.step();
        Check.due("0", x.register(2, 1), 0);
        Check.due("from 1", x.register(2, 3), 1);
        MailYard y = linkedPair(0, 0);
        Check.due("nothing", y.mail(2), 0);
        Check.due("waits on", y.status(2), 2);
        Check.due("the cell is free", y.room(), 24);
    }

    private static void exitWithOtherThanZero() {
        int[] reasons = {Check.LEAST, -1, 1, Check.GREATEST};
        for (int reason : reasons) {
            MailYard x = linkedPair(reason, 1);
            Check.due("a message", x.message(2, 0), reason);
            Check.due("runnable", x.status(2), 1);
            x.step();
            Check.due("from 1", x.register(2, 3), 1);
            MailYard y = linkedPair(reason, 0);
            Check.due("ended", y.status(2), 0);
            Check.due("room", y.room(), 24);
        }
    }

    /** "(a free cell is needed only where it is not that of a link; ..)": no cell is free here. */
    private static void exitHasTheCellOfItsLink() {
        for (int n = 22; n <= 23; n++) {
            MailYard x = new MailYard();
            Check.program(x, 0, Check.GOTO, 0, 1, Check.STOP, 0, 0);
            Check.program(x, 10, Check.TRAP, 0, 1, Check.LINK, 0, 0, Check.GOTO, 0, 12);
            x.spawn(10, 2);
            x.spawn(0, 6);
            Check.messages(x, 1, n);
            x.run(5);
            Check.due("free", x.room(), 23 - n);
            x.run(2);
            Check.due("ended", x.status(2), 0);
            Check.due("not lost", x.lost(), 0);
            Check.due("the exit", x.message(1, n), 6);
            Check.due("free as before", x.room(), 23 - n);
        }
    }

    private static void exitsOfSeveralLinksHaveTheirCells() {
        MailYard x = new MailYard();
        Check.program(x, 0, Check.TAKE, 1, 2, Check.GOTO, 0, 0, Check.STOP, 0, 0);
        Check.program(x, 10, Check.TRAP, 0, 1, Check.LINK, 0, 0, Check.TAKE, 1, 0, Check.TAKE, 1, 0);
        x.spawn(0, 6);
        x.spawn(10, 1);
        x.spawn(10, 1);
        x.spawn(10, 1);
        x.run(10);
        Check.due("three links", x.room(), 21);
        Check.messages(x, 2, 21);
        Check.due("no cell is free", x.room(), 0);
        x.load(13, Check.GOTO, 0, 13);
        x.load(12, Check.GOTO, 0, 12);
        x.tick();
        x.tick();
        x.run(6);
        Check.due("ended", x.status(1), 0);
        Check.due("none is lost", x.lost(), 0);
        Check.due("behind the others", x.message(2, 21), 6);
        Check.due("to the second", x.message(3, 0), 6);
        Check.due("to the third", x.message(4, 0), 6);
        Check.due("no cell is free", x.room(), 0);
    }

    private static void exitThatNobodyTrapsFreesItsCell() {
        MailYard x = new MailYard();
        Check.program(x, 0, Check.GOTO, 0, 1, Check.STOP, 0, 0);
        Check.program(x, 10, Check.LINK, 0, 0, Check.GOTO, 0, 11);
        x.spawn(10, 2);
        x.spawn(0, 0);
        Check.messages(x, 1, 23);
        x.run(5);
        Check.due("no cell is free", x.room(), 0);
        x.run(2);
        Check.due("ended with 0", x.status(2), 0);
        Check.due("that of the link is", x.room(), 1);
        Check.due("alive", x.status(1), 1);
        Check.due("mail", x.mail(1), 23);
    }

    /** "if none is, it is lost" */
    private static void exitWithoutALinkNeedsACell() {
        for (int n = 23; n <= 24; n++) {
            MailYard x = new MailYard();
            Check.program(x, 0, Check.TRAP, 0, 1, Check.LINK, 0, 0, Check.GOTO, 0, 2);
            x.spawn(0, 2);
            Check.messages(x, 1, n);
            x.run(2);
            Check.due("mail", x.mail(1), 24);
            Check.due("the exit", x.message(1, 23), n == 23 ? -1 : 24);
            Check.due("lost", x.lost(), n == 23 ? 0 : 1);
            Check.due("alive", x.status(1), 1);
        }
    }

    /** "(1) x is not alive any more; its messages and timers go." */
    private static void endedOneHasNothingLeft() {
        MailYard x = new MailYard();
        Check.program(x, 0, Check.LATER, 0, 2, Check.GOTO, 0, 0);
        x.spawn(0, 5);
        x.run(20);
        Check.messages(x, 1, 24);
        Check.due("ten timers", x.timers(), 10);
        Check.due("no cell is free", x.room(), 0);
        x.load(0, Check.STOP, 0, 0);
        x.step();
        Check.due("status", x.status(1), 0);
        Check.due("timers", x.timers(), 0);
        Check.due("room", x.room(), 24);
        Check.due("queue", x.queue(0), 0);
        Check.due("place", x.place(1), MailYard.DEAD);
        Check.due("mail", x.mail(1), MailYard.DEAD);
        Check.due("message", x.message(1, 0), 0);
        Check.due("register", x.register(1, 0), 0);
        Check.due("tick", x.tick(), 0);
        Check.due("tick", x.tick(), 0);
    }

    /** Eight that leave all that one can leave, and eight in their stead, which are as at first. */
    private static void newOnesAreAsAtFirst() {
        MailYard x = new MailYard();
        Check.program(x, 0, Check.TRAP, 0, 1, Check.SET, 1, 5, Check.SET, 2, 6, Check.SET, 3, 7,
                Check.LINK, 0, 0, Check.TAKE, 2, 0, Check.STOP, 0, 0);
        Check.program(x, 20, Check.LINK, 1, 0);
        for (int id = 1; id <= 8; id++) {
            x.spawn(0, Math.max(1, id - 1));
        }
        x.run(40);
        x.run(8);
        for (int id = 1; id <= 8; id++) {
            Check.messages(x, id, 2);
        }
        Check.due("seven links and 16 messages", x.room(), 1);
        Check.due("they end", x.run(40), 16);
        Check.due("room", x.room(), 24);
        for (int id = 9; id <= 16; id++) {
            Check.due("id", x.spawn(20, 0), id);
            for (int r = 0; r <= 3; r++) {
                Check.due("register " + r, x.register(id, r), 0);
            }
            Check.due("mail", x.mail(id), 0);
            for (int other = 9; other < id; other++) {
                Check.due("linked", x.linked(id, other) || x.linked(other, id), false);
            }
        }
        Check.due("none traps", x.run(40), 8);
    }

    /** More supervisors in one tick than can be alive at once: each begins three anew. */
    private static void newSupervisorsBeganNone() {
        MailYard x = new MailYard();
        Check.program(x, 0, Check.SET, 1, 5, Check.CHILD, 1, 10, Check.TAKE, 2, 0);
        Check.program(x, 10, Check.STOP, 0, 0);
        for (int i = 0; i < 10; i++) {
            int id = x.spawn(0, 0);
            Check.due("id", id, 5 * i + 1);
            Check.due("restarts", x.restarts(id), 0);
            Check.due("3 steps of it, 4 of children", x.run(40), 7);
            Check.due("ended", x.status(id), 0);
        }
    }

    /** One that is linked with more actors than can be alive at once, one after the other. */
    private static void linkIsGoneForGood() {
        MailYard x = new MailYard();
        Check.program(x, 0, Check.TAKE, 1, 0, Check.LINK, 1, 0, Check.GOTO, 0, 0);
        Check.program(x, 10, Check.TAKE, 1, 0, Check.STOP, 1, 0);
        x.spawn(0, 0);
        x.step();
        for (int id = 2; id <= 20; id++) {
            x.spawn(10, 0);
            x.step();
            Check.due("not yet", x.linked(1, id) || x.linked(id, 1), false);
            x.inject(1, id);
            x.run(4);
            Check.due("linked", x.linked(1, id) && x.linked(id, 1), true);
            Check.due("a cell", x.room(), 23);
            x.inject(id, 0);
            x.run(2);
            Check.due("gone", x.linked(1, id) || x.linked(id, 1), false);
            Check.due("its cell too", x.room(), 24);
        }
    }

    /** "That of x with r, if x is alive still": each of three is linked with both others. */
    private static void endedTwiceInOneStep() {
        MailYard x = new MailYard();
        Check.program(x, 0, Check.TAKE, 1, 0, Check.LINK, 1, 0, Check.TAKE, 1, 0, Check.STOP, 1, 0);
        Check.program(x, 10, Check.TRAP, 0, 1, Check.LINK, 0, 0, Check.TAKE, 1, 0);
        for (int i = 0; i < 3; i++) {
            x.spawn(0, 0);
        }
        x.run(3);
        int[][] pairs = {{1, 2}, {2, 3}, {3, 1}};
        for (int[] pair : pairs) {
            x.inject(pair[0], pair[1]);
            x.run(3);
        }
        x.spawn(10, 3);
        x.run(3);
        Check.due("four links", x.room(), 20);
        x.inject(1, 8);
        x.run(2);
        for (int id = 1; id <= 3; id++) {
            Check.due("ended " + id, x.status(id), 0);
        }
        Check.due("one exit", x.mail(4), 1);
        Check.due("its reason", x.message(4, 0), 8);
        Check.due("room", x.room(), 23);
    }

    /** "An ending that comes up in (2), (3), (4) is dealt with behind those that came up before." */
    private static void behindThoseThatCameUpBefore() {
        MailYard x = new MailYard();
        // 1 is linked with 2 and 4, 2 with 3; 5, which traps, with 3 and 4.
        Check.program(x, 0, Check.LINK, 0, 0, Check.TAKE, 1, 0, Check.STOP, 0, 0);
        Check.program(x, 10, Check.TRAP, 0, 1, Check.LINK, 0, 0, Check.SET, 0, 4, Check.LINK, 0, 0,
                Check.TAKE, 1, 0, Check.TAKE, 1, 0);
        x.spawn(1, 0);
        x.spawn(0, 1);
        x.spawn(0, 2);
        x.spawn(0, 1);
        x.spawn(10, 3);
        x.run(12);
        Check.due("five links", x.room(), 19);
        x.load(1, Check.SET, 0, 6);
        x.inject(1, 0);
        x.run(2);
        for (int id = 1; id <= 4; id++) {
            Check.due("ended " + id, x.status(id), 0);
        }
        x.step();
        Check.due("4 came up with 2", x.register(5, 3), 4);
        x.step();
        Check.due("3 behind it", x.register(5, 3), 3);
        Check.due("the reason goes on", x.register(5, 1), 6);
    }

    /** "(2) For each y linked with x, by rising ids": 8 last, first linked. */
    private static void linkedByRisingIds() {
        MailYard x = new MailYard();
        Check.program(x, 0, Check.TRAP, 0, 1, Check.TAKE, 1, 0, Check.LINK, 1, 0, Check.TAKE, 1, 0);
        Check.program(x, 10, Check.TAKE, 1, 0, Check.STOP, 0, 0);
        for (int id = 1; id <= 8; id++) {
            x.spawn(id == 5 ? 10 : 0, 4);
        }
        x.run(15);
        int[] order = {8, 3, 1, 7, 2, 6, 4};
        for (int id : order) {
            x.inject(id, 5);
            x.run(3);
        }
        Check.due("seven links", x.room(), 17);
        x.inject(5, 0);
        x.run(2);
        Check.due("queue", Check.queueDigits(x), 1234678);
        Check.due("seven messages", x.room(), 17);
    }

    /** The exit by the link comes up before the end of the children, if it is not 0. */
    private static void linkedAndSupervised() {
        int[] reasons = {-1, 0, 1};
        for (int reason : reasons) {
            MailYard x = new MailYard();
            Check.program(x, 0, Check.CHILD, 1, 10, Check.LINK, 1, 0, Check.TAKE, 2, 0, Check.STOP, 0, 0);
            Check.program(x, 10, Check.TAKE, 1, 0);
            Check.program(x, 20, Check.TRAP, 0, 1, Check.LINK, 0, 0, Check.TAKE, 1, 0);
            x.spawn(0, reason);
            x.run(4);
            x.spawn(20, 2);
            x.run(3);
            x.inject(1, 0);
            x.run(2);
            Check.due("the child ended", x.status(2), 0);
            Check.due("one exit", x.mail(3), 1);
            Check.due("its reason", x.message(3, 0), reason == 0 ? -2 : reason);
            Check.due("none begun anew", x.status(4), MailYard.BAD);
        }
    }

    /** "(3) Each actor alive whose supervisor is x, by rising ids, ends with -2." */
    private static void childrenByRisingIds() {
        MailYard x = new MailYard();
        Check.program(x, 0, Check.CHILD, 1, 10, Check.CHILD, 2, 10, Check.CHILD, 3, 10, Check.TAKE, 0, 0,
                Check.STOP, 0, 0);
        Check.program(x, 10, Check.TRAP, 0, 1, Check.TAKE, 0, 0);
        Check.program(x, 20, Check.TRAP, 0, 1, Check.LINK, 0, 0, Check.ADD, 0, 1, Check.LINK, 0, 0,
                Check.ADD, 0, 1, Check.LINK, 0, 0, Check.TAKE, 2, 0, Check.TAKE, 2, 0, Check.TAKE, 2, 0);
        x.spawn(0, 0);
        x.run(10);
        x.load(19, Check.SET, 1, -1);
        x.spawn(19, 4);
        x.run(8);
        Check.due("three links", x.room(), 21);
        x.inject(1, 3);
        x.run(2);
        Check.due("three exits", x.mail(5), 3);
        for (int id = 2; id <= 4; id++) {
            x.step();
            Check.due("by rising ids", x.register(5, 3), id);
            Check.due("reason", x.register(5, 2), -2);
        }
        Check.due("none begun anew", x.status(6), MailYard.BAD);
    }

    private static void childrenOfOneThatEndsWithZero() {
        MailYard x = new MailYard();
        Check.program(x, 0, Check.CHILD, 1, 10, Check.SPAWN, 2, 10, Check.STOP, 3, 0);
        Check.program(x, 10, Check.TAKE, 0, 0);
        x.spawn(0, 0);
        x.run(3);
        Check.due("ended with 0", x.status(1), 0);
        Check.due("its child", x.status(2), 0);
        Check.due("not one that is none", x.status(3), 1);
        Check.due("queue", Check.queueDigits(x), 3);
    }

    /** 1, a supervisor that waits; 2, a child that ends with what it is told. */
    private static MailYard watched() {
        MailYard x = new MailYard();
        Check.program(x, 0, Check.CHILD, 1, 10, Check.TAKE, 2, 0);
        Check.program(x, 10, Check.TAKE, 1, 0, Check.STOP, 1, 0);
        x.spawn(0, 0);
        x.run(3);
        return x;
    }

    /** The last child ends with a reason; the one begun anew, if any, waits. */
    private static void endWith(MailYard x, int child, int reason) {
        Check.due("told", x.inject(child, reason), 1);
        x.run(3);
        Check.due("ended", x.status(child), 0);
    }

    /** "(4) If x has a supervisor that is alive, and r is not 0" */
    private static void begunAnewUnlessZero() {
        int[] reasons = {Check.LEAST, -1, 0, 1, Check.GREATEST};
        for (int reason : reasons) {
            MailYard x = watched();
            endWith(x, 2, reason);
            Check.due("begun anew behind " + reason, x.status(3), reason == 0 ? MailYard.BAD : 2);
            Check.due("restarts", x.restarts(1), reason == 0 ? 0 : 1);
            Check.due("the supervisor waits on", x.status(1), 2);
        }
    }

    /** "a new actor with the entry, the argument and the supervisor of x" */
    private static void begunAnewWithItsEntryAndArgument() {
        int[] entries = {0, 47};
        for (int entry : entries) {
            MailYard x = new MailYard();
            Check.program(x, 20, Check.SET, 3, Check.LEAST, Check.CHILD, 3, entry, Check.TAKE, 1, 0);
            Check.program(x, entry, Check.SET, 0, 1);
            x.spawn(20, 0);
            x.run(5);
            Check.due("ended at an empty cell or none", x.status(2), 0);
            Check.due("entry", x.place(3), entry);
            Check.due("argument", x.register(3, 0), Check.LEAST);
            Check.due("supervisor", x.supervisor(3), 1);
            Check.due("register", x.register(1, 3), 2);
        }
    }

    private static void supervisorNotAliveAnyMore() {
        MailYard x = watched();
        Check.program(x, 20, Check.LINK, 0, 0, Check.TAKE, 1, 0, Check.STOP, 1, 0);
        x.load(2, Check.STOP, 2, 0);
        x.inject(1, 0);
        x.run(2);
        Check.due("supervisor", x.status(1), 0);
        Check.due("child", x.status(2), 0);
        Check.due("none begun anew behind -2", x.status(3), MailYard.BAD);
        Check.due("the next id", x.spawn(20, 0), 3);
        x.step();
        Check.due("one without supervisor", x.status(3), 0);
        Check.due("is not begun anew", x.status(4), MailYard.BAD);
    }

    /** A supervisor 1 of n children linked with the first of them, which ends. */
    private static MailYard childrenEndTogether(int n) {
        MailYard x = new MailYard();
        Check.program(x, 0, Check.CHILD, 1, 10, Check.SET, 2, 2, Check.TAKE, 3, 0, Check.CHILD, 2, 20,
                Check.GOTO, 0, 1);
        Check.program(x, 10, Check.TAKE, 1, 0, Check.STOP, 1, 0);
        Check.program(x, 20, Check.TAKE, 1, 1, Check.GOTO, 0, 20, Check.LINK, 0, 0, Check.TAKE, 1, 0);
        x.spawn(0, 0);
        x.run(40);
        for (int i = 2; i <= n; i++) {
            x.inject(1, 0);
            x.run(40);
            x.tick();
            x.run(40);
        }
        Check.due("links", x.room(), 25 - n);
        Check.due("the last child", x.supervisor(n + 1), 1);
        x.inject(2, 7);
        x.run(2);
        for (int id = 2; id <= n + 1; id++) {
            Check.due("ended " + id, x.status(id), 0);
        }
        return x;
    }

    /** "if that one began fewer than 3 actors anew in the last 10 ticks .. it begins x anew" */
    private static void threeInOneStep() {
        MailYard x = childrenEndTogether(3);
        Check.due("restarts", x.restarts(1), 3);
        Check.due("queue", Check.queueDigits(x), 567);
        Check.due("entry of the first", x.place(5), 10);
        Check.due("entry of the last", x.place(7), 20);
        Check.due("argument of the last", x.register(7, 0), 2);
        Check.due("not linked anew", x.room(), 24);
    }

    /** "otherwise the supervisor ends with -3", and those that it began end with it. */
    private static void fourInOneStep() {
        MailYard x = childrenEndTogether(4);
        Check.due("supervisor", x.status(1), 0);
        for (int id = 6; id <= 8; id++) {
            Check.due("begun and ended " + id, x.status(id), 0);
        }
        Check.due("no fourth", x.status(9), MailYard.BAD);
        Check.due("nobody", x.queue(0), 0);
        Check.due("room", x.room(), 24);
    }

    private static void threeInTenTicks() {
        MailYard x = watched();
        for (int i = 1; i <= 3; i++) {
            endWith(x, i + 1, 1);
            Check.due("begun " + i, x.restarts(1), i);
            Check.due("anew", x.status(i + 2), 2);
        }
        endWith(x, 5, 1);
        Check.due("supervisor", x.status(1), 0);
        Check.due("restarts", x.restarts(1), MailYard.DEAD);
        Check.due("no fourth", x.status(6), MailYard.BAD);
    }

    private static void fourthEndsWithMinusThree() {
        MailYard x = watched();
        Check.program(x, 20, Check.TRAP, 0, 1, Check.LINK, 0, 0, Check.TAKE, 1, 0);
        x.spawn(20, 1);
        x.run(3);
        int[] children = {2, 4, 5};
        for (int child : children) {
            endWith(x, child, 1);
        }
        Check.due("alive", x.status(1), 2);
        Check.due("no exit", x.mail(3), 0);
        x.inject(6, 1);
        x.run(2);
        Check.due("ended", x.status(1), 0);
        Check.due("its exit", x.mail(3), 1);
        Check.due("its reason", x.message(3, 0), -3);
    }

    /** "(at times above now - 10)": one begun at now - 9 counts, one at now - 10 does not. */
    private static void firstOfThreeTenTicksAgo() {
        for (int start = 0; start <= 3; start++) {
            for (int span = 9; span <= 10; span++) {
                MailYard x = watched();
                Check.ticks(x, start);
                endWith(x, 2, 1);
                Check.ticks(x, 1);
                endWith(x, 3, 1);
                endWith(x, 4, 1);
                Check.ticks(x, span - 1);
                endWith(x, 5, 1);
                Check.due("supervisor behind " + span, x.status(1), span == 9 ? 0 : 2);
                Check.due("anew behind " + span, x.status(6), span == 9 ? MailYard.BAD : 2);
            }
        }
    }

    private static void eachOfThreeTenTicksAgo() {
        MailYard x = watched();
        endWith(x, 2, 1);
        Check.ticks(x, 3);
        endWith(x, 3, 1);
        Check.ticks(x, 4);
        endWith(x, 4, 1);
        Check.ticks(x, 3);
        endWith(x, 5, 1);
        Check.due("at 10 the one at 0 is forgotten", x.restarts(1), 4);
        Check.ticks(x, 3);
        endWith(x, 6, 1);
        Check.due("at 13 the one at 3", x.restarts(1), 5);
        Check.ticks(x, 4);
        endWith(x, 7, 1);
        Check.due("at 17 the one at 7", x.restarts(1), 6);
        Check.ticks(x, 2);
        endWith(x, 8, 1);
        Check.due("at 19 none", x.status(1), 0);
    }

    private static void threeOfEachSupervisor() {
        MailYard x = watched();
        x.spawn(0, 0);
        x.run(3);
        Check.due("a second one", x.supervisor(4), 3);
        int[] children = {2, 5, 6};
        for (int child : children) {
            endWith(x, child, 1);
        }
        Check.due("three of the first", x.restarts(1), 3);
        Check.due("none of the second", x.restarts(3), 0);
        endWith(x, 4, 1);
        Check.due("one of the second", x.restarts(3), 1);
        Check.due("the first is alive", x.status(1), 2);
        endWith(x, 7, 1);
        Check.due("the fourth of the first", x.status(1), 0);
        Check.due("the second is alive", x.status(3), 2);
    }

    /** A new one began none, though the one in whose stead it stands began three. */
    private static void supervisorBegunAnewCountsFromZero() {
        MailYard x = new MailYard();
        Check.program(x, 20, Check.CHILD, 1, 0, Check.TAKE, 2, 0);
        Check.program(x, 0, Check.CHILD, 1, 10, Check.TAKE, 2, 0);
        Check.program(x, 10, Check.TAKE, 1, 0, Check.STOP, 1, 0);
        x.spawn(20, 0);
        x.run(40);
        for (int child = 3; child <= 5; child++) {
            endWith(x, child, 1);
        }
        Check.due("three", x.restarts(2), 3);
        endWith(x, 6, 1);
        x.run(40);
        Check.due("ended with -3", x.status(2), 0);
        Check.due("begun anew", x.supervisor(7), 1);
        Check.due("from zero", x.restarts(7), 0);
        for (int child = 8; child <= 10; child++) {
            endWith(x, child, 1);
            Check.due("again", x.restarts(7), child - 7);
        }
        Check.due("by its supervisor once", x.restarts(1), 1);
    }

    /** -3 is a reason like others: a supervisor of supervisors counts it. */
    private static void tooOftenGoesUpward() {
        MailYard x = new MailYard();
        Check.program(x, 20, Check.CHILD, 1, 0, Check.TAKE, 2, 0);
        Check.program(x, 0, Check.SET, 1, 5, Check.CHILD, 1, 10, Check.TAKE, 2, 0);
        Check.program(x, 10, Check.STOP, 0, 0);
        x.spawn(20, 0);
        // 2 of the first, 4 times 3 of a supervisor and 4 of its children.
        Check.due("steps", x.run(40), 30);
        Check.due("the first ended too", x.status(1), 0);
        Check.due("4 times 5 others", x.status(21), 0);
        Check.due("no more", x.status(22), MailYard.BAD);
    }

    /** "If 8 are alive, which cannot be": the one that ended is not alive by then. */
    private static void begunAnewWhenEightAreAlive() {
        MailYard x = watched();
        Check.program(x, 30, Check.TAKE, 1, 0);
        for (int i = 3; i <= 8; i++) {
            x.spawn(30, 0);
        }
        x.run(6);
        Check.due("eight", x.spawn(30, 0), MailYard.FULL);
        for (int i = 0; i < 3; i++) {
            endWith(x, i == 0 ? 2 : 8 + i, 1);
            Check.due("anew", x.status(9 + i), 2);
            Check.due("eight again", x.spawn(30, 0), MailYard.FULL);
        }
        endWith(x, 11, 1);
        Check.due("the fourth ends both", x.status(1), 0);
        Check.due("six are left", x.spawn(30, 0), 12);
        Check.due("seven", x.spawn(30, 0), 13);
        Check.due("eight", x.spawn(30, 0), MailYard.FULL);
    }

    private static void allEightEndInOneStep() {
        MailYard x = new MailYard();
        Check.program(x, 0, Check.LINK, 0, 0, Check.TAKE, 1, 0, Check.STOP, 1, 0);
        x.spawn(1, 0);
        for (int id = 2; id <= 8; id++) {
            x.spawn(0, id - 1);
        }
        x.run(15);
        Check.due("seven links", x.room(), 17);
        x.inject(8, 4);
        x.run(2);
        for (int id = 1; id <= 8; id++) {
            Check.due("ended " + id, x.status(id), 0);
        }
        Check.due("room", x.room(), 24);
        Check.due("queue", x.queue(0), 0);
        Check.due("step", x.step(), 0);
        for (int id = 9; id <= 16; id++) {
            Check.due("eight new ones", x.spawn(0, 0), id);
        }
        Check.due("no ninth", x.spawn(0, 0), MailYard.FULL);
    }
}
