/** The calls of the promises 2 to 21 at the last argument that is taken and the first that is not. */
public final class BoundaryCallTest {
    /** Arguments that are no id as long as fewer than 99 actors were begun. */
    private static final int[] NO_IDS = {Check.LEAST, -1, 0, 99, Check.GREATEST};

    private BoundaryCallTest() {
    }

    public static void main(String[] args) {
        load02NoSuchCell();
        load02NoSuchInstruction();
        load02FirstNumberIsNoRegister();
        load02FirstNumberNotLookedAt();
        load02SecondNumberIsNoRegister();
        load02SecondNumberIsNoCell();
        load02SecondNumberBelowOne();
        load02SecondNumberNotLookedAt();
        load02RefusedLeavesTheCell();
        spawn03Entry();
        spawn03Eight();
        inject04NotAlive();
        inject04NoCell();
        step05EmptyQueue();
        run06Bounds();
        run06EmptyQueue();
        tick07None();
        tick07LimitThatIsNoMore();
        tick07LimitThatIsNoMoreInTheSameTick();
        tick07LimitBehindALostMessage();
        tick07TenAtOnce();
        status08Bounds();
        register09Bounds();
        place10Bounds();
        mail11Bounds();
        message12Bounds();
        linked13Bounds();
        supervisor14Bounds();
        restarts15Bounds();
        queue16Bounds();
        room17Bounds();
        lost18Bounds();
        timers19Bounds();
        output20Bounds();
        author21Bounds();
        refusalNamedFirst();
        Check.finish();
    }

    /** "False when there is no such cell" */
    private static void load02NoSuchCell() {
        int[][] cells = {{Check.LEAST, 0}, {-48, 0}, {-1, 0}, {0, 1}, {47, 1}, {48, 0}, {Check.GREATEST, 0}};
        for (int[] cell : cells) {
            for (int op = 0; op <= 13; op++) {
                MailYard x = new MailYard();
                Check.due("2 cell " + cell[0], x.load(cell[0], op, 1, 1), cell[1] == 1);
            }
        }
    }

    /** "op is not 0 .. 13" */
    private static void load02NoSuchInstruction() {
        int[][] ops = {{Check.LEAST, 0}, {-1, 0}, {0, 1}, {13, 1}, {14, 0}, {Check.GREATEST, 0}};
        for (int[] op : ops) {
            MailYard x = new MailYard();
            Check.due("2 op " + op[0], x.load(0, op[0], 1, 1), op[1] == 1);
            x.spawn(0, 1);
            x.step();
            Check.due("2 op " + op[0] + " is in the cell", x.status(1) != 0, op[1] == 1);
        }
    }

    /** "a (all but GOTO and TRAP) is no register" */
    private static void load02FirstNumberIsNoRegister() {
        int[] ops = {Check.SET, Check.ADD, Check.LESS, Check.SEND, Check.TAKE, Check.SPAWN, Check.CHILD,
            Check.LINK, Check.STOP, Check.PUT, Check.SELF, Check.LATER};
        for (int op : ops) {
            MailYard x = new MailYard();
            Check.due("2 a least of " + op, x.load(0, op, Check.LEAST, 1), false);
            Check.due("2 a -1 of " + op, x.load(0, op, -1, 1), false);
            Check.due("2 a 0 of " + op, x.load(0, op, 0, 1), true);
            Check.due("2 a 3 of " + op, x.load(0, op, 3, 1), true);
            Check.due("2 a 4 of " + op, x.load(0, op, 4, 1), false);
            Check.due("2 a greatest of " + op, x.load(0, op, Check.GREATEST, 1), false);
        }
    }

    private static void load02FirstNumberNotLookedAt() {
        int[] numbers = {Check.LEAST, -1, 0, 3, 4, Check.GREATEST};
        for (int a : numbers) {
            MailYard x = new MailYard();
            Check.due("2 GOTO with a " + a, x.load(0, Check.GOTO, a, 5), true);
            Check.due("2 TRAP with a " + a, x.load(5, Check.TRAP, a, 1), true);
            Check.program(x, 6, Check.LINK, 0, 0);
            x.spawn(0, 0);
            Check.due("2 done", x.run(3), 3);
            Check.due("2 it traps", x.mail(1), 1);
        }
    }

    /** "b is no register for ADD, LESS, SEND" */
    private static void load02SecondNumberIsNoRegister() {
        int[] ops = {Check.ADD, Check.LESS, Check.SEND};
        for (int op : ops) {
            MailYard x = new MailYard();
            Check.due("2 b least of " + op, x.load(0, op, 0, Check.LEAST), false);
            Check.due("2 b -1 of " + op, x.load(0, op, 0, -1), false);
            Check.due("2 b 0 of " + op, x.load(0, op, 0, 0), true);
            Check.due("2 b 3 of " + op, x.load(0, op, 0, 3), true);
            Check.due("2 b 4 of " + op, x.load(0, op, 0, 4), false);
            Check.due("2 b greatest of " + op, x.load(0, op, 0, Check.GREATEST), false);
        }
    }

    /** "not 0 .. 47 for GOTO, SPAWN, CHILD" */
    private static void load02SecondNumberIsNoCell() {
        int[] ops = {Check.GOTO, Check.SPAWN, Check.CHILD};
        for (int op : ops) {
            MailYard x = new MailYard();
            Check.due("2 b least of " + op, x.load(0, op, 0, Check.LEAST), false);
            Check.due("2 b -1 of " + op, x.load(0, op, 0, -1), false);
            Check.due("2 b 0 of " + op, x.load(0, op, 0, 0), true);
            Check.due("2 b 47 of " + op, x.load(0, op, 0, 47), true);
            Check.due("2 b 48 of " + op, x.load(0, op, 0, 48), false);
            Check.due("2 b greatest of " + op, x.load(0, op, 0, Check.GREATEST), false);
        }
    }

    /** "below 1 for LATER" */
    private static void load02SecondNumberBelowOne() {
        MailYard x = new MailYard();
        Check.due("2 b least", x.load(0, Check.LATER, 0, Check.LEAST), false);
        Check.due("2 b -1", x.load(0, Check.LATER, 0, -1), false);
        Check.due("2 b 0", x.load(0, Check.LATER, 0, 0), false);
        Check.due("2 b 1", x.load(0, Check.LATER, 0, 1), true);
        Check.due("2 b greatest", x.load(0, Check.LATER, 0, Check.GREATEST), true);
    }

    /** "Numbers that an instruction has not are not looked at." */
    private static void load02SecondNumberNotLookedAt() {
        int[] ops = {Check.SET, Check.TAKE, Check.LINK, Check.TRAP, Check.STOP, Check.PUT, Check.SELF};
        int[] numbers = {Check.LEAST, -1, 0, 3, 4, 47, 48, Check.GREATEST};
        for (int op : ops) {
            for (int b : numbers) {
                MailYard x = new MailYard();
                Check.due("2 b " + b + " of " + op, x.load(0, op, 1, b), true);
                x.spawn(0, 0);
                Check.due("2 done", x.step(), 1);
            }
        }
    }

    private static void load02RefusedLeavesTheCell() {
        int[][] refused = {{-1, 0, 0}, {14, 0, 0}, {0, -1, 0}, {0, 4, 0}, {1, 0, 4}, {3, 0, 48}, {13, 0, 0}};
        for (int[] r : refused) {
            MailYard x = new MailYard();
            Check.program(x, 0, Check.PUT, 0, 0, Check.GOTO, 0, 0);
            Check.due("2 into a full cell", x.load(0, r[0], r[1], r[2]), false);
            Check.due("2 into an empty cell", x.load(10, r[0], r[1], r[2]), false);
            x.spawn(0, 6);
            x.step();
            Check.due("2 the full one is as it was", x.output(0), 6);
            Check.due("2 its place", x.place(1), 1);
            x.spawn(10, 0);
            x.run(5);
            Check.due("2 the empty one too", x.status(2), 0);
        }
    }

    /** "BAD: entry is not 0 .. 47" */
    private static void spawn03Entry() {
        int[] bad = {Check.LEAST, -1, 48, Check.GREATEST};
        MailYard x = new MailYard();
        for (int entry : bad) {
            Check.due("3 entry " + entry, x.spawn(entry, 0), MailYard.BAD);
        }
        Check.due("3 none was begun", x.status(1), MailYard.BAD);
        Check.due("3 entry 0", x.spawn(0, 0), 1);
        Check.due("3 entry 47", x.spawn(47, 0), 2);
        Check.due("3 places", x.place(1) * 100 + x.place(2), 47);
    }

    /** "FULL: 8 are alive" */
    private static void spawn03Eight() {
        MailYard x = new MailYard();
        for (int id = 1; id <= 7; id++) {
            x.spawn(0, 0);
        }
        Check.due("3 the eighth", x.spawn(0, 0), 8);
        Check.due("3 the ninth", x.spawn(0, 0), MailYard.FULL);
        Check.due("3 again", x.spawn(47, 1), MailYard.FULL);
        x.step();
        Check.due("3 no id was used", x.spawn(0, 0), 9);
        Check.due("3 eight again", x.spawn(0, 0), MailYard.FULL);
    }

    /** A yard in which 1 ended, 2 is runnable, 3 waits, and no other ever was. */
    private static MailYard threeActors() {
        MailYard x = new MailYard();
        Check.program(x, 0, Check.GOTO, 0, 0);
        Check.program(x, 10, Check.TAKE, 1, 0, Check.GOTO, 0, 10);
        x.spawn(47, 5);
        x.step();
        x.spawn(0, 6);
        x.spawn(10, 7);
        x.run(6);
        Check.due("states", x.status(1) * 100 + x.status(2) * 10 + x.status(3), 12);
        return x;
    }

    /** "DEAD: no such actor is alive" */
    private static void inject04NotAlive() {
        MailYard x = threeActors();
        for (int id : NO_IDS) {
            Check.due("4 id " + id, x.inject(id, 5), MailYard.DEAD);
        }
        Check.due("4 ended", x.inject(1, 5), MailYard.DEAD);
        Check.due("4 runnable", x.inject(2, 5), 1);
        Check.due("4 waiting", x.inject(3, 5), 1);
        Check.due("4 never", x.inject(4, 5), MailYard.DEAD);
        Check.due("4 room", x.room(), 22);
        Check.due("4 not lost", x.lost(), 0);
    }

    /** "FULL: no cell is free (it is not counted as lost)" */
    private static void inject04NoCell() {
        MailYard x = threeActors();
        Check.messages(x, 2, 23);
        Check.due("4 the last cell", x.inject(2, 5), 1);
        Check.due("4 no cell", x.inject(2, 6), MailYard.FULL);
        Check.due("4 for one that waits", x.inject(3, 6), MailYard.FULL);
        Check.due("4 it waits on", x.status(3), 2);
        Check.due("4 not counted", x.lost(), 0);
        Check.due("4 mail", x.mail(2), 24);
        Check.due("4 the last", x.message(2, 23), 5);
    }

    /** "0 when the queue is empty" */
    private static void step05EmptyQueue() {
        MailYard x = new MailYard();
        Check.due("5 none ever", x.step(), 0);
        Check.program(x, 0, Check.TAKE, 1, 0);
        x.spawn(0, 0);
        Check.due("5 one", x.step(), 1);
        Check.due("5 it waits", x.step(), 0);
        x.inject(1, 0);
        Check.due("5 it takes", x.step(), 1);
        Check.due("5 it ends", x.step(), 1);
        Check.due("5 none any more", x.step(), 0);
    }

    /** "BAD: n is not 0 .. 40" */
    private static void run06Bounds() {
        MailYard x = new MailYard();
        Check.program(x, 0, Check.ADD, 1, 0, Check.ADD, 1, 0, Check.GOTO, 0, 0);
        x.spawn(0, 1);
        int[] bad = {Check.LEAST, -1, 41, Check.GREATEST};
        for (int n : bad) {
            Check.due("6 " + n, x.run(n), MailYard.BAD);
            Check.due("6 nothing done", x.register(1, 1) + x.place(1), 0);
        }
        Check.due("6 0", x.run(0), 0);
        Check.due("6 nothing done", x.register(1, 1) + x.place(1), 0);
        Check.due("6 1", x.run(1), 1);
        Check.due("6 place", x.place(1), 1);
        Check.due("6 40", x.run(40), 40);
        Check.due("6 41 in all", x.register(1, 1), 28);
        Check.due("6 place", x.place(1), 2);
    }

    /** "Steps until n were done or the queue is empty: how many were done." */
    private static void run06EmptyQueue() {
        for (int n = 38; n <= 40; n++) {
            MailYard x = new MailYard();
            for (int cell = 0; cell < 38; cell++) {
                x.load(cell, Check.SET, 1, cell);
            }
            x.load(38, Check.TAKE, 1, 0);
            x.spawn(0, 0);
            Check.due("6 of " + n, x.run(n), Math.min(n, 39));
            Check.due("6 waits", x.status(1), n == 38 ? 1 : 2);
        }
        MailYard y = new MailYard();
        Check.due("6 empty, 0", y.run(0), 0);
        Check.due("6 empty, 1", y.run(1), 0);
        Check.due("6 empty, 40", y.run(40), 0);
        Check.due("6 empty, 41", y.run(41), MailYard.BAD);
    }

    /** "Now is 1 more; then the timers that end now, by their numbers, go" */
    private static void tick07None() {
        MailYard x = new MailYard();
        Check.due("7 no timers", x.tick(), 0);
        Check.program(x, 0, Check.LATER, 0, 2, Check.GOTO, 0, 1);
        x.spawn(0, 0);
        x.step();
        Check.due("7 one too early", x.tick(), 0);
        Check.due("7 it is there", x.timers(), 1);
        Check.due("7 in time", x.tick(), 1);
        Check.due("7 it is gone", x.timers(), 0);
        Check.due("7 one too late", x.tick(), 0);
    }

    /** "(a limit that is no more by then is none of them)" */
    private static void tick07LimitThatIsNoMore() {
        MailYard x = new MailYard();
        Check.program(x, 0, Check.TAKE, 1, 1, Check.GOTO, 0, 1, Check.GOTO, 0, 2);
        x.spawn(0, 0);
        x.spawn(0, 0);
        x.run(2);
        x.inject(1, 5);
        Check.due("7 that of the other", x.tick(), 1);
        Check.due("7 place", x.place(1), 0);
        Check.due("7 place of the other", x.place(2), 2);
    }

    /** A message and the limit of waiting end in one tick, the message having the lower number. */
    private static MailYard messageThenLimit() {
        MailYard x = new MailYard();
        Check.program(x, 0, Check.LATER, 0, 1, Check.TAKE, 1, 1, Check.GOTO, 0, 2, Check.GOTO, 0, 3);
        Check.program(x, 10, Check.GOTO, 0, 10);
        x.spawn(0, 8);
        x.run(2);
        x.spawn(10, 0);
        Check.due("7 both", x.timers(), 2);
        return x;
    }

    private static void tick07LimitThatIsNoMoreInTheSameTick() {
        MailYard x = messageThenLimit();
        Check.messages(x, 2, 23);
        Check.due("7 the message alone", x.tick(), 1);
        Check.due("7 place", x.place(1), 1);
        Check.due("7 mail", x.mail(1), 1);
        Check.due("7 timers", x.timers(), 0);
        Check.due("7 queue", Check.queueDigits(x), 21);
        Check.due("7 no more", x.tick(), 0);
    }

    private static void tick07LimitBehindALostMessage() {
        MailYard x = messageThenLimit();
        Check.messages(x, 2, 24);
        Check.due("7 both", x.tick(), 2);
        Check.due("7 place", x.place(1), 3);
        Check.due("7 lost", x.lost(), 1);
        Check.due("7 mail", x.mail(1), 0);
        Check.due("7 timers", x.timers(), 0);
        Check.due("7 queue", Check.queueDigits(x), 21);
    }

    private static void tick07TenAtOnce() {
        MailYard x = new MailYard();
        Check.program(x, 0, Check.TAKE, 1, 2, Check.GOTO, 0, 1, Check.TAKE, 1, 0);
        Check.program(x, 10, Check.LATER, 0, 2, Check.LATER, 0, 2, Check.TAKE, 1, 2);
        for (int i = 0; i < 7; i++) {
            x.spawn(0, 0);
        }
        x.spawn(10, 0);
        x.run(10);
        Check.due("7 ten", x.timers(), 10);
        Check.due("7 none yet", x.tick(), 0);
        Check.due("7 all but the limit of the last", x.tick(), 9);
        Check.due("7 queue", Check.queueDigits(x), 12345678);
        Check.due("7 none", x.timers(), 0);
    }

    /** "BAD: there never was one" */
    private static void status08Bounds() {
        MailYard x = threeActors();
        for (int id : NO_IDS) {
            Check.due("8 id " + id, x.status(id), MailYard.BAD);
        }
        Check.due("8 ended", x.status(1), 0);
        Check.due("8 runnable", x.status(2), 1);
        Check.due("8 waiting", x.status(3), 2);
        Check.due("8 the next", x.status(4), MailYard.BAD);
    }

    /** "0 when it is not, or there is no such register" */
    private static void register09Bounds() {
        MailYard x = new MailYard();
        Check.program(x, 0, Check.SET, 1, 11, Check.SET, 2, 12, Check.SET, 3, 13);
        x.spawn(47, 5);
        x.step();
        x.spawn(0, 10);
        x.run(3);
        int[] none = {Check.LEAST, -1, 4, Check.GREATEST};
        for (int r : none) {
            Check.due("9 register " + r, x.register(2, r), 0);
        }
        for (int r = 0; r <= 3; r++) {
            Check.due("9 register " + r, x.register(2, r), 10 + r);
            Check.due("9 of the ended", x.register(1, r), 0);
            Check.due("9 of the next", x.register(3, r), 0);
            for (int id : NO_IDS) {
                Check.due("9 of " + id, x.register(id, r), 0);
            }
        }
    }

    /** "DEAD: it is not alive." */
    private static void place10Bounds() {
        MailYard x = threeActors();
        for (int id : NO_IDS) {
            Check.due("10 id " + id, x.place(id), MailYard.DEAD);
        }
        Check.due("10 ended", x.place(1), MailYard.DEAD);
        Check.due("10 runnable", x.place(2), 0);
        Check.due("10 waiting", x.place(3), 10);
        Check.due("10 the next", x.place(4), MailYard.DEAD);
        Check.program(x, 0, Check.GOTO, 0, 47);
        Check.program(x, 47, Check.LESS, 1, 0);
        x.run(2);
        Check.due("10 the greatest place", x.place(2), 49);
    }

    private static void mail11Bounds() {
        MailYard x = threeActors();
        for (int id : NO_IDS) {
            Check.due("11 id " + id, x.mail(id), MailYard.DEAD);
        }
        Check.due("11 ended", x.mail(1), MailYard.DEAD);
        Check.due("11 none", x.mail(2), 0);
        Check.due("11 waiting", x.mail(3), 0);
        Check.due("11 the next", x.mail(4), MailYard.DEAD);
        for (int n = 1; n <= 24; n++) {
            x.inject(2, n);
            Check.due("11 messages", x.mail(2), n);
        }
        x.inject(2, 25);
        Check.due("11 no more", x.mail(2), 24);
    }

    /** "0 when there is none" */
    private static void message12Bounds() {
        MailYard x = threeActors();
        x.inject(2, 21);
        x.inject(2, 22);
        int[] none = {Check.LEAST, -24, -1, 2, 23, 24, Check.GREATEST};
        for (int k : none) {
            Check.due("12 message " + k, x.message(2, k), 0);
        }
        Check.due("12 the first", x.message(2, 0), 21);
        Check.due("12 the last", x.message(2, 1), 22);
        Check.due("12 ended", x.message(1, 0), 0);
        Check.due("12 empty", x.message(3, 0), 0);
        Check.due("12 the next", x.message(4, 0), 0);
        for (int id : NO_IDS) {
            Check.due("12 id " + id, x.message(id, 0), 0);
        }
    }

    /** "Whether two actors are linked." */
    private static void linked13Bounds() {
        MailYard x = new MailYard();
        Check.program(x, 0, Check.LINK, 0, 0, Check.TAKE, 1, 0, Check.STOP, 0, 0);
        x.spawn(47, 0);
        x.step();
        x.spawn(1, 0);
        x.spawn(0, 2);
        x.spawn(1, 0);
        x.run(4);
        Check.due("13 one way", x.linked(2, 3), true);
        Check.due("13 the other", x.linked(3, 2), true);
        for (int id = 2; id <= 4; id++) {
            Check.due("13 with itself", x.linked(id, id), false);
            Check.due("13 with the ended", x.linked(id, 1), false);
            Check.due("13 of the ended", x.linked(1, id), false);
            Check.due("13 with the next", x.linked(id, 5), false);
            for (int no : NO_IDS) {
                Check.due("13 with " + no, x.linked(id, no), false);
                Check.due("13 of " + no, x.linked(no, id), false);
                Check.due("13 of none", x.linked(no, no), false);
            }
        }
        Check.due("13 not linked", x.linked(2, 4), false);
        x.load(2, Check.STOP, 1, 0);
        x.inject(3, 0);
        x.run(2);
        Check.due("13 no more", x.linked(2, 3), false);
        Check.due("13 no more", x.linked(3, 2), false);
    }

    /** "0 when it has none (..). DEAD: it is not alive." */
    private static void supervisor14Bounds() {
        MailYard x = threeActors();
        for (int id : NO_IDS) {
            Check.due("14 id " + id, x.supervisor(id), MailYard.DEAD);
        }
        Check.due("14 ended", x.supervisor(1), MailYard.DEAD);
        Check.due("14 without", x.supervisor(2), 0);
        Check.due("14 the next", x.supervisor(4), MailYard.DEAD);
        Check.program(x, 20, Check.CHILD, 1, 10, Check.SPAWN, 1, 10, Check.STOP, 3, 0);
        x.spawn(20, 0);
        x.run(7);
        Check.due("14 child", x.supervisor(5), 4);
        Check.due("14 not a child", x.supervisor(6), 0);
        x.step();
        Check.due("14 both ended", x.supervisor(4), MailYard.DEAD);
        Check.due("14 both ended", x.supervisor(5), MailYard.DEAD);
        Check.due("14 not that one", x.supervisor(6), 0);
    }

    private static void restarts15Bounds() {
        MailYard x = threeActors();
        for (int id : NO_IDS) {
            Check.due("15 id " + id, x.restarts(id), MailYard.DEAD);
        }
        Check.due("15 ended", x.restarts(1), MailYard.DEAD);
        Check.due("15 none", x.restarts(2), 0);
        Check.due("15 the next", x.restarts(4), MailYard.DEAD);
        Check.program(x, 0, Check.CHILD, 1, 30, Check.TAKE, 2, 0);
        Check.program(x, 30, Check.TAKE, 1, 0, Check.STOP, 1, 0);
        x.run(3);
        for (int n = 1; n <= 20; n++) {
            x.inject(n + 3, 1);
            x.run(3);
            Check.due("15 more than the three that are counted at once", x.restarts(2), n);
            Check.due("15 of the new one", x.restarts(n + 4), 0);
            Check.ticks(x, 4);
        }
    }

    /** "The id of the actor that stands at place k (from 0) of the queue; 0 when there is none." */
    private static void queue16Bounds() {
        int[] never = {Check.LEAST, -1, 8, 9, Check.GREATEST};
        MailYard x = new MailYard();
        Check.program(x, 0, Check.TAKE, 1, 0);
        for (int size = 0; size <= 8; size++) {
            for (int k : never) {
                Check.due("16 place " + k, x.queue(k), 0);
            }
            if (size > 0) {
                Check.due("16 the last", x.queue(size - 1), size);
                Check.due("16 the first", x.queue(0), 1);
            }
            Check.due("16 behind the last", x.queue(size), 0);
            x.spawn(0, 0);
        }
        x.run(8);
        Check.due("16 all wait", x.queue(0), 0);
        Check.due("16 all wait", x.queue(7), 0);
    }

    private static void room17Bounds() {
        MailYard x = threeActors();
        Check.due("17 all", x.room(), 24);
        Check.messages(x, 2, 24);
        Check.due("17 none", x.room(), 0);
        x.inject(2, 0);
        Check.due("17 none", x.room(), 0);
        x.load(0, Check.STOP, 1, 0);
        x.step();
        Check.due("17 all", x.room(), 24);
    }

    private static void lost18Bounds() {
        MailYard x = new MailYard();
        Check.program(x, 0, Check.SEND, 0, 0, Check.GOTO, 0, 0);
        x.spawn(0, 1);
        Check.due("18 none", x.lost(), 0);
        x.run(40);
        Check.due("18 20 messages", x.mail(1), 20);
        x.run(8);
        Check.due("18 none of 24", x.lost(), 0);
        x.step();
        Check.due("18 the 25th", x.lost(), 1);
        x.step();
        Check.due("18 stays", x.lost(), 1);
        for (int i = 0; i < 10; i++) {
            x.run(40);
        }
        Check.due("18 two hundred more", x.lost(), 201);
        x.load(0, Check.STOP, 1, 0);
        x.run(2);
        Check.due("18 stays behind the end", x.lost(), 201);
    }

    private static void timers19Bounds() {
        MailYard x = new MailYard();
        Check.due("19 none", x.timers(), 0);
        Check.program(x, 0, Check.LATER, 0, 9, Check.GOTO, 0, 0);
        x.spawn(0, 1);
        for (int n = 1; n <= 10; n++) {
            x.run(2);
            Check.due("19 timers", x.timers(), n);
        }
        x.run(2);
        Check.due("19 ten at most", x.timers(), 10);
        x.load(0, Check.STOP, 1, 0);
        x.step();
        Check.due("19 none", x.timers(), 0);
    }

    /** "How many outputs there are, for i = -1; otherwise the value of output i, 0 when there is none." */
    private static void output20Bounds() {
        MailYard x = new MailYard();
        int[] never = {Check.LEAST, -60, -2, 60, 61, Check.GREATEST};
        Check.program(x, 0, Check.PUT, 0, 0, Check.GOTO, 0, 0);
        x.spawn(0, 7);
        for (int n = 0; n <= 60; n++) {
            Check.due("20 how many", x.output(-1), n);
            Check.due("20 the last", n == 0 ? 7 : x.output(n - 1), 7);
            Check.due("20 behind the last", x.output(n), 0);
            x.run(2);
        }
        for (int i : never) {
            Check.due("20 output " + i, x.output(i), 0);
        }
        Check.due("20 the first", x.output(0), 7);
        Check.due("20 no more than 60", x.output(-1), 60);
    }

    /** "BAD: there is none" */
    private static void author21Bounds() {
        MailYard x = new MailYard();
        int[] never = {Check.LEAST, -2, -1, 60, 61, Check.GREATEST};
        Check.program(x, 0, Check.PUT, 0, 0, Check.GOTO, 0, 0);
        x.spawn(47, 0);
        x.step();
        x.spawn(0, 7);
        for (int n = 0; n <= 60; n++) {
            Check.due("21 the last", n == 0 ? 2 : x.author(n - 1), 2);
            Check.due("21 behind the last", x.author(n), MailYard.BAD);
            x.run(2);
        }
        for (int i : never) {
            Check.due("21 output " + i, x.author(i), MailYard.BAD);
        }
        x.load(0, Check.STOP, 0, 0);
        x.step();
        Check.due("21 of one that ended", x.author(0), 2);
    }

    /** "Of several refusals the one named first is answered" */
    private static void refusalNamedFirst() {
        MailYard x = new MailYard();
        for (int id = 1; id <= 8; id++) {
            x.spawn(0, 0);
        }
        Check.messages(x, 1, 24);
        Check.due("spawn: FULL", x.spawn(0, 0), MailYard.FULL);
        Check.due("spawn: BAD before FULL", x.spawn(48, 0), MailYard.BAD);
        Check.due("spawn: BAD before FULL", x.spawn(-1, 0), MailYard.BAD);
        Check.due("inject: FULL", x.inject(8, 0), MailYard.FULL);
        Check.due("inject: DEAD before FULL", x.inject(9, 0), MailYard.DEAD);
        Check.due("inject: DEAD before FULL", x.inject(0, 0), MailYard.DEAD);
    }
}
