/** Limits of waiting and messages that come later. */
public final class TimerTest {
    private TimerTest() {
    }

    public static void main(String[] args) {
        limitEnds();
        limitAtTheEndOfTheCode();
        limitIsNoMore();
        limitsOfTenTimers();
        laterTakesTheValueOfNow();
        laterComesFromItself();
        laterIsLost();
        byTheirNumbers();
        messageBeforeLimit();
        limitBeforeMessage();
        earlierLimitIsTakenAway();
        greatestNumberOfTicks();
        timersGoWithTheirActor();
        Check.finish();
    }

    private static void limitEnds() {
        MailYard x = new MailYard();
        Check.program(x, 0, Check.TAKE, 1, 3, Check.STOP, 0, 0, Check.GOTO, 0, 2);
        x.spawn(0, 0);
        x.spawn(2, 0);
        x.step();
        Check.due("a limit", x.timers(), 1);
        Check.due("1", x.tick(), 0);
        Check.due("2", x.tick(), 0);
        Check.due("waits", x.status(1), 2);
        Check.due("3", x.tick(), 1);
        Check.due("runnable", x.status(1), 1);
        Check.due("place is 2 more", x.place(1), 2);
        Check.due("at the end", Check.queueDigits(x), 21);
        Check.due("gone", x.timers(), 0);
        Check.due("no message", x.mail(1), 0);
        Check.due("nothing more", x.tick(), 0);
    }

    private static void limitAtTheEndOfTheCode() {
        MailYard x = new MailYard();
        Check.program(x, 47, Check.TAKE, 1, 1);
        x.spawn(47, 0);
        x.step();
        x.tick();
        Check.due("place", x.place(1), 49);
        Check.due("step", x.step(), 1);
        Check.due("ended", x.status(1), 0);
    }

    private static void limitIsNoMore() {
        MailYard x = new MailYard();
        Check.program(x, 0, Check.TAKE, 1, 1, Check.GOTO, 0, 0);
        x.spawn(0, 0);
        x.step();
        x.inject(1, 5);
        Check.due("gone", x.timers(), 0);
        Check.due("none ends", x.tick(), 0);
        Check.due("place stays", x.place(1), 0);
        x.run(3);
        Check.due("waits with a new limit", x.timers(), 1);
        Check.due("that ends", x.tick(), 1);
        Check.due("place", x.place(1), 2);
    }

    private static void limitsOfTenTimers() {
        MailYard x = new MailYard();
        Check.program(x, 0, Check.LATER, 0, 9, Check.GOTO, 0, 0, Check.TAKE, 0, 1, Check.GOTO, 0, 3);
        x.spawn(0, 0);
        x.run(18);
        Check.due("nine", x.timers(), 9);
        x.spawn(2, 0);
        x.spawn(2, 0);
        x.load(1, Check.TAKE, 1, 0);
        x.load(0, Check.TAKE, 1, 0);
        x.run(40);
        Check.due("ten", x.timers(), 10);
        Check.due("two waits", x.status(2), 2);
        Check.due("three waits", x.status(3), 2);
        Check.due("one limit ends", x.tick(), 1);
        Check.due("that of two", x.status(2), 1);
        Check.due("three has none", x.status(3), 2);
        Check.ticks(x, 7);
        Check.due("nine end", x.tick(), 9);
        Check.due("three waits on", x.status(3), 2);
    }

    private static void laterTakesTheValueOfNow() {
        MailYard x = new MailYard();
        Check.program(x, 0, Check.LATER, 2, 1, Check.SET, 2, 8, Check.LATER, 2, 1, Check.SET, 2, 9,
                Check.GOTO, 0, 4);
        x.spawn(0, 0);
        x.run(5);
        Check.due("both", x.tick(), 2);
        Check.due("first", x.message(1, 0), 0);
        Check.due("second", x.message(1, 1), 8);
    }

    private static void laterComesFromItself() {
        MailYard x = new MailYard();
        Check.program(x, 0, Check.LATER, 0, 1, Check.TAKE, 1, 0, Check.GOTO, 0, 2);
        x.spawn(2, 0);
        x.spawn(0, 6);
        x.run(7);
        Check.due("waits", x.status(2), 2);
        x.tick();
        Check.due("runnable", x.status(2), 1);
        x.run(6);
        Check.due("value", x.register(2, 1), 6);
        Check.due("from itself", x.register(2, 3), 2);
    }

    private static void laterIsLost() {
        MailYard x = new MailYard();
        Check.program(x, 0, Check.LATER, 0, 1, Check.TAKE, 1, 0, Check.GOTO, 0, 2);
        x.spawn(0, 6);
        x.run(2);
        x.spawn(2, 0);
        for (int i = 0; i < 24; i++) {
            x.inject(2, 0);
        }
        Check.due("it counts as a timer that ended", x.tick(), 1);
        Check.due("lost", x.lost(), 1);
        Check.due("waits on", x.status(1), 2);
        Check.due("gone", x.timers(), 0);
    }

    private static void byTheirNumbers() {
        MailYard x = new MailYard();
        Check.program(x, 0, Check.TAKE, 1, 3, Check.GOTO, 0, 1, Check.GOTO, 0, 1);
        Check.program(x, 10, Check.TAKE, 1, 2, Check.GOTO, 0, 10, Check.GOTO, 0, 11);
        x.spawn(10, 0);
        x.step();
        x.spawn(0, 0);
        x.step();
        x.tick();
        x.spawn(10, 0);
        x.step();
        Check.due("three limits", x.timers(), 3);
        Check.due("the first", x.tick(), 1);
        Check.due("queue", Check.queueDigits(x), 1);
        Check.due("two at one time", x.tick(), 2);
        Check.due("as they were made", Check.queueDigits(x), 123);
    }

    private static void messageBeforeLimit() {
        MailYard x = new MailYard();
        Check.program(x, 0, Check.LATER, 0, 2, Check.TAKE, 1, 2);
        x.spawn(0, 6);
        x.run(2);
        Check.due("two", x.timers(), 2);
        Check.due("none", x.tick(), 0);
        Check.due("the limit is no more by then", x.tick(), 1);
        Check.due("place stays", x.place(1), 1);
        Check.due("mail", x.mail(1), 1);
        Check.due("none", x.timers(), 0);
        Check.due("queue", Check.queueDigits(x), 1);
    }

    private static void limitBeforeMessage() {
        MailYard x = new MailYard();
        Check.program(x, 0, Check.LATER, 0, 2, Check.LATER, 0, 3, Check.TAKE, 1, 5, Check.TAKE, 1, 5,
                Check.GOTO, 0, 4);
        x.spawn(0, 6);
        x.run(3);
        x.tick();
        Check.due("first message", x.tick(), 1);
        x.load(3, Check.TAKE, 1, 1);
        x.run(2);
        Check.due("the message is older than the limit", x.tick(), 1);
        Check.due("place stays", x.place(1), 3);
        Check.due("mail", x.mail(1), 1);

        MailYard y = new MailYard();
        Check.program(y, 0, Check.TAKE, 1, 2, Check.GOTO, 0, 1, Check.LATER, 0, 1, Check.GOTO, 0, 3);
        y.spawn(0, 0);
        y.step();
        y.tick();
        Check.due("limit", y.tick(), 1);
        Check.due("place", y.place(1), 2);
        y.run(2);
        Check.due("message", y.tick(), 1);
        Check.due("mail", y.mail(1), 1);
    }

    private static void earlierLimitIsTakenAway() {
        MailYard x = new MailYard();
        Check.program(x, 0, Check.TAKE, 1, 9, Check.GOTO, 0, 1);
        Check.program(x, 10, Check.LATER, 0, 1, Check.LATER, 0, 1, Check.TAKE, 1, 1);
        x.spawn(0, 0);
        x.step();
        x.spawn(10, 4);
        x.run(3);
        x.spawn(0, 0);
        x.step();
        Check.due("five", x.timers(), 5);
        Check.due("both messages", x.tick(), 2);
        Check.due("mail", x.mail(2), 2);
        Check.due("the others' limits stay", x.timers(), 2);
        Check.ticks(x, 7);
        Check.due("both end", x.tick(), 2);
        Check.due("queue", Check.queueDigits(x), 213);
    }

    private static void greatestNumberOfTicks() {
        MailYard x = new MailYard();
        Check.program(x, 0, Check.LATER, 0, Check.GREATEST, Check.TAKE, 1, Check.GREATEST);
        x.tick();
        x.tick();
        x.spawn(0, 0);
        x.run(2);
        Check.due("two", x.timers(), 2);
        for (int i = 0; i < 400; i++) {
            Check.due("none ends", x.tick(), 0);
        }
        Check.due("two", x.timers(), 2);
        Check.due("waits", x.status(1), 2);
    }

    private static void timersGoWithTheirActor() {
        MailYard x = new MailYard();
        Check.program(x, 0, Check.LATER, 0, 1, Check.LATER, 0, 2, Check.TAKE, 1, 3);
        Check.program(x, 10, Check.LINK, 0, 0, Check.LATER, 0, 2, Check.STOP, 0, 0);
        x.spawn(0, 0);
        x.run(3);
        x.spawn(0, 0);
        x.run(3);
        x.spawn(10, 1);
        x.run(2);
        Check.due("seven", x.timers(), 7);
        x.step();
        Check.due("1 ended by the link", x.status(1), 0);
        Check.due("three", x.timers(), 3);
        Check.due("that of 2", x.tick(), 1);
        Check.due("the limit of 2 is no more", x.timers(), 1);
    }
}
