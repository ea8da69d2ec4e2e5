/** One method or more for each promise, by its number. */
public final class PromiseTest {
    private PromiseTest() {
    }

    public static void main(String[] args) {
        newObject01();
        objectsAreApart01();
        load02Cells();
        load02Operations();
        load02FirstNumber();
        load02SecondNumber();
        load02ReplacesAndKeeps();
        spawn03();
        spawn03Refusals();
        inject04();
        inject04Refusals();
        step05();
        step05Turns();
        run06();
        tick07();
        status08();
        register09();
        place10();
        mail11();
        message12();
        linked13();
        supervisor14();
        restarts15();
        queue16();
        room17();
        lost18();
        timers19();
        output20();
        author21();
        Check.finish();
    }

    private static void newObject01() {
        MailYard x = new MailYard();
        Check.due("1 room", x.room(), 24);
        Check.due("1 lost", x.lost(), 0);
        Check.due("1 timers", x.timers(), 0);
        Check.due("1 outputs", x.output(-1), 0);
        Check.due("1 queue", x.queue(0), 0);
        Check.due("1 status", x.status(1), MailYard.BAD);
        Check.due("1 step", x.step(), 0);
        Check.due("1 run", x.run(40), 0);
        for (int cell = 0; cell < 48; cell++) {
            int id = x.spawn(cell, 0);
            Check.due("1 id", id, cell + 1);
            Check.due("1 step", x.step(), id);
            Check.due("1 cell " + cell + " is empty", x.status(id), 0);
        }
        Check.due("1 tick", x.tick(), 0);
    }

    private static void objectsAreApart01() {
        MailYard one = new MailYard();
        MailYard two = new MailYard();
        Check.program(one, 0, Check.PUT, 0, 0, Check.GOTO, 0, 1);
        one.spawn(0, 4);
        one.run(3);
        Check.due("1 other's outputs", two.output(-1), 0);
        Check.due("1 other's actors", two.status(1), MailYard.BAD);
        Check.due("1 other's ids", two.spawn(0, 0), 1);
        two.step();
        Check.due("1 other's code", two.status(1), 0);
    }

    private static void load02Cells() {
        MailYard x = new MailYard();
        Check.due("2 cell -1", x.load(-1, Check.SET, 0, 0), false);
        Check.due("2 cell 0", x.load(0, Check.SET, 0, 0), true);
        Check.due("2 cell 47", x.load(47, Check.SET, 0, 0), true);
        Check.due("2 cell 48", x.load(48, Check.SET, 0, 0), false);
        Check.due("2 least cell", x.load(Check.LEAST, Check.SET, 0, 0), false);
        Check.due("2 greatest cell", x.load(Check.GREATEST, Check.SET, 0, 0), false);
    }

    private static void load02Operations() {
        MailYard x = new MailYard();
        for (int op = -3; op <= 17; op++) {
            Check.due("2 op " + op, x.load(0, op, 1, 1), op >= 0 && op <= 13);
        }
        Check.due("2 least op", x.load(0, Check.LEAST, 0, 1), false);
        Check.due("2 greatest op", x.load(0, Check.GREATEST, 0, 1), false);
    }

    private static void load02FirstNumber() {
        MailYard x = new MailYard();
        int[] numbers = {Check.LEAST, -1, 0, 1, 2, 3, 4, 48, Check.GREATEST};
        for (int op = 0; op <= 13; op++) {
            for (int a : numbers) {
                boolean free = op == Check.GOTO || op == Check.TRAP;
                Check.due("2 op " + op + " with a " + a, x.load(0, op, a, 1), free || a >= 0 && a <= 3);
            }
        }
    }

    private static void load02SecondNumber() {
        MailYard x = new MailYard();
        int[] numbers = {Check.LEAST, -1, 0, 1, 3, 4, 47, 48, Check.GREATEST};
        for (int op = 0; op <= 13; op++) {
            for (int b : numbers) {
                boolean want;
                if (op == Check.ADD || op == Check.LESS || op == Check.SEND) {
                    want = b >= 0 && b <= 3;
                } else if (op == Check.GOTO || op == Check.SPAWN || op == Check.CHILD) {
                    want = b >= 0 && b <= 47;
                } else {
                    want = op != Check.LATER || b >= 1;
                }
                Check.due("2 op " + op + " with b " + b, x.load(0, op, 0, b), want);
            }
        }
    }

    private static void load02ReplacesAndKeeps() {
        MailYard x = new MailYard();
        Check.program(x, 0, Check.SET, 1, 5, Check.GOTO, 0, 0);
        x.spawn(0, 0);
        x.run(2);
        Check.due("2 first", x.register(1, 1), 5);
        Check.due("2 refused", x.load(0, Check.SET, 4, 6), false);
        Check.due("2 refused", x.load(0, Check.GOTO, 0, 48), false);
        x.run(2);
        Check.due("2 a refused load changes nothing", x.register(1, 1), 5);
        Check.due("2 replaced", x.load(0, Check.SET, 1, 6), true);
        x.run(2);
        Check.due("2 the new one is done", x.register(1, 1), 6);
    }

    private static void spawn03() {
        MailYard x = new MailYard();
        Check.due("3 first", x.spawn(47, Check.LEAST), 1);
        Check.due("3 second", x.spawn(0, 7), 2);
        Check.due("3 place", x.place(1), 47);
        Check.due("3 place", x.place(2), 0);
        Check.due("3 argument", x.register(1, 0), Check.LEAST);
        Check.due("3 argument", x.register(2, 0), 7);
        for (int r = 1; r < 4; r++) {
            Check.due("3 register " + r, x.register(2, r), 0);
        }
        Check.due("3 supervisor", x.supervisor(2), 0);
        Check.due("3 mail", x.mail(2), 0);
        Check.due("3 status", x.status(2), 1);
        Check.due("3 queue", Check.queueDigits(x), 12);
        Check.due("3 room", x.room(), 24);
        x.run(2);
        Check.due("3 ids are never used again", x.spawn(0, 0), 3);
    }

    private static void spawn03Refusals() {
        MailYard x = new MailYard();
        int[] entries = {-1, 48, Check.LEAST, Check.GREATEST};
        for (int entry : entries) {
            Check.due("3 entry " + entry, x.spawn(entry, 0), MailYard.BAD);
        }
        for (int id = 1; id <= 8; id++) {
            Check.due("3 id", x.spawn(0, 0), id);
        }
        Check.due("3 ninth", x.spawn(0, 0), MailYard.FULL);
        Check.due("3 BAD is named first", x.spawn(48, 0), MailYard.BAD);
        Check.due("3 queue", Check.queueDigits(x), 12345678);
        Check.due("3 none was begun", x.status(9), MailYard.BAD);
        x.step();
        Check.due("3 again one below eight", x.spawn(0, 0), 9);
    }

    private static void inject04() {
        MailYard x = new MailYard();
        Check.program(x, 0, Check.TAKE, 1, 5, Check.GOTO, 0, 0);
        x.spawn(0, 0);
        x.spawn(0, 0);
        x.run(2);
        Check.due("4 both wait", x.status(1) * 10 + x.status(2), 22);
        Check.due("4 limits", x.timers(), 2);
        Check.due("4 injected", x.inject(2, Check.LEAST), 1);
        Check.due("4 runnable", x.status(2), 1);
        Check.due("4 its limit is no more", x.timers(), 1);
        Check.due("4 the other waits", x.status(1), 2);
        Check.due("4 room", x.room(), 23);
        Check.due("4 place stays", x.place(2), 0);
        x.step();
        Check.due("4 value", x.register(2, 1), Check.LEAST);
        Check.due("4 from the outside", x.register(2, 3), 0);
        Check.due("4 room again", x.room(), 24);
    }

    private static void inject04Refusals() {
        MailYard x = new MailYard();
        Check.due("4 never was one", x.inject(1, 0), MailYard.DEAD);
        Check.due("4 id 0", x.inject(0, 0), MailYard.DEAD);
        Check.due("4 id -1", x.inject(-1, 0), MailYard.DEAD);
        x.spawn(0, 0);
        x.step();
        x.spawn(0, 0);
        Check.due("4 not alive any more", x.inject(1, 0), MailYard.DEAD);
        for (int i = 0; i < 24; i++) {
            Check.due("4 message " + i, x.inject(2, i), 1);
        }
        Check.due("4 no cell", x.inject(2, 24), MailYard.FULL);
        Check.due("4 DEAD is named first", x.inject(1, 24), MailYard.DEAD);
        Check.due("4 not counted as lost", x.lost(), 0);
        Check.due("4 mail", x.mail(2), 24);
    }

    private static void step05() {
        MailYard x = new MailYard();
        Check.due("5 nobody", x.step(), 0);
        Check.program(x, 0, Check.SET, 1, 1, Check.TAKE, 1, 0);
        x.spawn(0, 0);
        x.spawn(0, 0);
        Check.due("5 first", x.step(), 1);
        Check.due("5 place", x.place(1), 1);
        Check.due("5 first again", x.step(), 1);
        Check.due("5 first waits", x.status(1), 2);
        Check.due("5 second", x.step(), 2);
        Check.due("5 second again", x.step(), 2);
        Check.due("5 none left", x.step(), 0);
    }

    private static void step05Turns() {
        MailYard x = new MailYard();
        Check.program(x, 0, Check.GOTO, 0, 0);
        x.spawn(0, 0);
        x.run(3);
        x.spawn(0, 0);
        Check.due("5 fourth", x.step(), 1);
        Check.due("5 before the fifth", Check.queueDigits(x), 12);
        Check.due("5 fifth", x.step(), 1);
        Check.due("5 behind the fifth", Check.queueDigits(x), 21);
        for (int i = 0; i < 5; i++) {
            Check.due("5 turn of 2", x.step(), 2);
        }
        Check.due("5 turn of 1", x.step(), 1);
        Check.due("5 queue", Check.queueDigits(x), 12);
    }

    private static void run06() {
        MailYard x = new MailYard();
        Check.program(x, 0, Check.ADD, 1, 0, Check.GOTO, 0, 0);
        Check.due("6 -1", x.run(-1), MailYard.BAD);
        Check.due("6 41", x.run(41), MailYard.BAD);
        Check.due("6 least", x.run(Check.LEAST), MailYard.BAD);
        Check.due("6 greatest", x.run(Check.GREATEST), MailYard.BAD);
        Check.due("6 empty queue", x.run(40), 0);
        x.spawn(0, 1);
        Check.due("6 a refused run does nothing", x.run(41), MailYard.BAD);
        Check.due("6 place", x.place(1), 0);
        Check.due("6 0", x.run(0), 0);
        Check.due("6 place", x.place(1), 0);
        Check.due("6 1", x.run(1), 1);
        Check.due("6 place", x.place(1), 1);
        Check.due("6 40", x.run(40), 40);
        Check.due("6 sum", x.register(1, 1), 21);
        x.load(0, Check.STOP, 0, 0);
        Check.due("6 until the queue is empty", x.run(40), 2);
    }

    private static void tick07() {
        MailYard x = new MailYard();
        Check.due("7 no timers", x.tick(), 0);
        Check.program(x, 0, Check.LATER, 0, 2, Check.LATER, 0, 1, Check.LATER, 0, 2, Check.GOTO, 0, 3);
        x.spawn(0, 6);
        x.run(4);
        Check.due("7 three", x.timers(), 3);
        Check.due("7 one ends", x.tick(), 1);
        Check.due("7 two left", x.timers(), 2);
        Check.due("7 mail", x.mail(1), 1);
        Check.due("7 two end", x.tick(), 2);
        Check.due("7 mail", x.mail(1), 3);
        Check.due("7 none", x.tick(), 0);
        Check.due("7 ticks do no steps", x.place(1), 3);
    }

    private static void status08() {
        MailYard x = new MailYard();
        int[] never = {Check.LEAST, -1, 0, 1, Check.GREATEST};
        for (int id : never) {
            Check.due("8 id " + id, x.status(id), MailYard.BAD);
        }
        Check.program(x, 0, Check.TAKE, 0, 0);
        x.spawn(0, 0);
        Check.due("8 runnable", x.status(1), 1);
        x.step();
        Check.due("8 waiting", x.status(1), 2);
        x.inject(1, 0);
        Check.due("8 runnable", x.status(1), 1);
        x.run(2);
        Check.due("8 ended", x.status(1), 0);
        Check.due("8 next", x.status(2), MailYard.BAD);
    }

    private static void register09() {
        MailYard x = new MailYard();
        Check.due("9 never", x.register(1, 0), 0);
        x.spawn(0, 5);
        Check.due("9 argument", x.register(1, 0), 5);
        int[] none = {Check.LEAST, -1, 4, Check.GREATEST};
        for (int r : none) {
            Check.due("9 register " + r, x.register(1, r), 0);
        }
        Check.program(x, 0, Check.SET, 0, 10, Check.SET, 1, 11, Check.SET, 2, 12, Check.SET, 3, 13);
        x.run(4);
        for (int r = 0; r < 4; r++) {
            Check.due("9 register " + r, x.register(1, r), 10 + r);
        }
        x.step();
        Check.due("9 not alive", x.register(1, 0), 0);
    }

    private static void place10() {
        MailYard x = new MailYard();
        Check.due("10 never", x.place(1), MailYard.DEAD);
        Check.due("10 id 0", x.place(0), MailYard.DEAD);
        Check.program(x, 47, Check.SET, 0, 1);
        x.spawn(47, 0);
        Check.due("10 entry", x.place(1), 47);
        x.step();
        Check.due("10 behind the code", x.place(1), 48);
        Check.due("10 alive still", x.status(1), 1);
        x.step();
        Check.due("10 ended", x.place(1), MailYard.DEAD);
    }

    private static void mail11() {
        MailYard x = new MailYard();
        Check.due("11 never", x.mail(1), MailYard.DEAD);
        x.spawn(0, 0);
        Check.due("11 none", x.mail(1), 0);
        x.inject(1, 5);
        x.inject(1, 6);
        Check.due("11 two", x.mail(1), 2);
        x.step();
        Check.due("11 ended", x.mail(1), MailYard.DEAD);
    }

    private static void message12() {
        MailYard x = new MailYard();
        Check.due("12 never", x.message(1, 0), 0);
        Check.program(x, 0, Check.TAKE, 0, 0, Check.GOTO, 0, 0);
        x.spawn(0, 0);
        for (int round = 0; round < 5; round++) {
            for (int i = 0; i < 7; i++) {
                x.inject(1, round * 10 + i + 1);
            }
            for (int i = 0; i < 7; i++) {
                Check.due("12 message " + i, x.message(1, i), round * 10 + i + 1);
            }
            Check.due("12 behind the last", x.message(1, 7), 0);
            Check.due("12 -1", x.message(1, -1), 0);
            Check.due("12 least", x.message(1, Check.LEAST), 0);
            Check.due("12 greatest", x.message(1, Check.GREATEST), 0);
            x.step();
            Check.due("12 first in, first out", x.register(1, 0), round * 10 + 1);
            Check.due("12 next", x.message(1, 0), round * 10 + 2);
            x.run(14);
        }
        x.inject(1, 9);
        x.load(0, Check.STOP, 0, 0);
        x.step();
        Check.due("12 not alive", x.message(1, 0), 0);
    }

    private static void linked13() {
        MailYard x = new MailYard();
        Check.due("13 never", x.linked(1, 2), false);
        Check.due("13 no ids", x.linked(0, 0), false);
        Check.program(x, 0, Check.LINK, 0, 0, Check.TAKE, 1, 0);
        x.spawn(1, 0);
        x.spawn(0, 1);
        x.spawn(0, 1);
        x.run(5);
        Check.due("13 1 2", x.linked(1, 2), true);
        Check.due("13 2 1", x.linked(2, 1), true);
        Check.due("13 1 3", x.linked(1, 3), true);
        Check.due("13 2 3", x.linked(2, 3), false);
        Check.due("13 1 1", x.linked(1, 1), false);
        Check.due("13 1 0", x.linked(1, 0), false);
        x.inject(2, 0);
        x.load(2, Check.STOP, 1, 0);
        x.run(2);
        Check.due("13 2 is not alive", x.linked(1, 2), false);
        Check.due("13 not alive first", x.linked(2, 1), false);
        Check.due("13 itself", x.linked(2, 2), false);
        Check.due("13 the other stays", x.linked(1, 3), true);
        x.spawn(1, 0);
        Check.due("13 a new one has no links", x.linked(1, 4), false);
    }

    private static void supervisor14() {
        MailYard x = new MailYard();
        Check.due("14 never", x.supervisor(1), MailYard.DEAD);
        Check.program(x, 0, Check.CHILD, 1, 10, Check.SPAWN, 2, 10, Check.TAKE, 0, 0, Check.STOP, 0, 0);
        Check.program(x, 10, Check.TAKE, 0, 0);
        x.spawn(0, 0);
        x.run(5);
        Check.due("14 outside", x.supervisor(1), 0);
        Check.due("14 child", x.supervisor(2), 1);
        Check.due("14 spawned", x.supervisor(3), 0);
        x.inject(1, 0);
        x.run(2);
        Check.due("14 ended", x.supervisor(1), MailYard.DEAD);
        Check.due("14 child ended with it", x.supervisor(2), MailYard.DEAD);
        Check.due("14 the spawned one did not", x.supervisor(3), 0);
    }

    private static void restarts15() {
        MailYard x = new MailYard();
        Check.due("15 never", x.restarts(1), MailYard.DEAD);
        Check.program(x, 0, Check.CHILD, 1, 10, Check.TAKE, 0, 0);
        Check.program(x, 10, Check.TAKE, 1, 0, Check.STOP, 1, 0);
        x.spawn(0, 0);
        x.run(3);
        Check.due("15 none", x.restarts(1), 0);
        int child = 2;
        for (int i = 1; i <= 5; i++) {
            x.inject(child, 7);
            x.run(3);
            child++;
            Check.due("15 begun", x.restarts(1), i);
            Check.due("15 the new one began none", x.restarts(child), 0);
            Check.ticks(x, 5);
        }
        x.inject(child, 0);
        x.run(3);
        Check.due("15 not behind a 0", x.restarts(1), 5);
        Check.due("15 ended", x.restarts(child), MailYard.DEAD);
    }

    private static void queue16() {
        MailYard x = new MailYard();
        Check.due("16 empty", x.queue(0), 0);
        Check.program(x, 0, Check.TAKE, 0, 0, Check.GOTO, 0, 0);
        for (int i = 0; i < 4; i++) {
            x.spawn(0, 0);
        }
        Check.due("16 as they came", Check.queueDigits(x), 1234);
        int[] none = {Check.LEAST, -1, 4, 8, Check.GREATEST};
        for (int k : none) {
            Check.due("16 place " + k, x.queue(k), 0);
        }
        x.run(3);
        Check.due("16 three wait", Check.queueDigits(x), 4);
        x.inject(3, 0);
        x.inject(1, 0);
        Check.due("16 at the end", Check.queueDigits(x), 431);
        x.inject(4, 0);
        Check.due("16 a runnable one stays", Check.queueDigits(x), 431);
    }

    private static void room17() {
        MailYard x = new MailYard();
        Check.program(x, 0, Check.LINK, 0, 0, Check.TAKE, 1, 0, Check.STOP, 1, 0);
        x.spawn(1, 0);
        x.spawn(0, 1);
        x.run(3);
        Check.due("17 a link", x.room(), 23);
        x.inject(1, 0);
        x.inject(1, 0);
        x.inject(2, 0);
        Check.due("17 and messages", x.room(), 20);
        x.step();
        Check.due("17 one taken", x.room(), 21);
        x.step();
        Check.due("17 all of the ended go", x.room(), 23);
        x.run(2);
        Check.due("17 all free", x.room(), 24);
    }

    private static void lost18() {
        MailYard x = new MailYard();
        Check.program(x, 0, Check.SEND, 0, 0, Check.GOTO, 0, 0);
        x.spawn(0, 9);
        x.run(2);
        Check.due("18 to nobody is not lost", x.lost(), 0);
        x.load(2, Check.GOTO, 0, 2);
        x.spawn(2, 0);
        x.spawn(0, 2);
        x.load(0, Check.GOTO, 0, 0);
        x.run(8);
        x.load(0, Check.SEND, 0, 0);
        for (int i = 0; i < 24; i++) {
            x.inject(2, i);
        }
        Check.due("18 all full", x.room(), 0);
        Check.due("18 not the outside's", x.lost(), 0);
        x.run(40);
        Check.due("18 counted", x.lost(), 8);
        Check.due("18 mail", x.mail(2), 24);
    }

    private static void timers19() {
        MailYard x = new MailYard();
        Check.due("19 none", x.timers(), 0);
        Check.program(x, 0, Check.LATER, 0, 3, Check.GOTO, 0, 0);
        x.spawn(0, 1);
        for (int i = 1; i <= 12; i++) {
            x.run(2);
            Check.due("19 after " + i, x.timers(), Math.min(i, 10));
        }
        x.load(0, Check.STOP, 0, 0);
        x.step();
        Check.due("19 gone with the actor", x.timers(), 0);
        Check.ticks(x, 2);
        Check.due("19 none end", x.tick(), 0);
    }

    private static void output20() {
        MailYard x = new MailYard();
        Check.due("20 count", x.output(-1), 0);
        Check.due("20 none", x.output(0), 0);
        Check.program(x, 0, Check.PUT, 0, 0, Check.ADD, 0, 1, Check.GOTO, 0, 0);
        x.spawn(0, Check.LEAST);
        x.load(1, Check.SET, 0, 7);
        x.run(4);
        Check.due("20 count", x.output(-1), 2);
        Check.due("20 first", x.output(0), Check.LEAST);
        Check.due("20 second", x.output(1), 7);
        int[] none = {Check.LEAST, -2, 2, 60, Check.GREATEST};
        for (int i : none) {
            Check.due("20 output " + i, x.output(i), 0);
        }
        for (int i = 0; i < 6; i++) {
            x.run(40);
        }
        Check.due("20 sixty", x.output(-1), 60);
        Check.due("20 the last", x.output(59), 7);
        Check.due("20 none behind", x.output(60), 0);
        Check.due("20 no output ends nobody", x.status(1), 1);
    }

    private static void author21() {
        MailYard x = new MailYard();
        int[] none = {Check.LEAST, -2, -1, 0, 1, 60, Check.GREATEST};
        for (int i : none) {
            Check.due("21 output " + i, x.author(i), MailYard.BAD);
        }
        Check.program(x, 0, Check.PUT, 0, 0);
        x.spawn(0, 0);
        x.run(2);
        x.spawn(0, 0);
        x.run(2);
        Check.due("21 first", x.author(0), 1);
        Check.due("21 second", x.author(1), 2);
        Check.due("21 third", x.author(2), MailYard.BAD);
        Check.due("21 -1", x.author(-1), MailYard.BAD);
    }
}
