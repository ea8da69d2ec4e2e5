/** Counts the answers that are not the due ones and prints each of them. */
final class Check {
    static final int SET = 0;
    static final int ADD = 1;
    static final int LESS = 2;
    static final int GOTO = 3;
    static final int SEND = 4;
    static final int TAKE = 5;
    static final int SPAWN = 6;
    static final int CHILD = 7;
    static final int LINK = 8;
    static final int TRAP = 9;
    static final int STOP = 10;
    static final int PUT = 11;
    static final int SELF = 12;
    static final int LATER = 13;

    static final int LEAST = Integer.MIN_VALUE;
    static final int GREATEST = Integer.MAX_VALUE;

    private static int wrong = 0;
    private static int asked = 0;

    private Check() {
    }

    static void due(String what, long got, long want) {
        asked++;
        if (got != want) {
            wrong++;
            System.out.println(what + ": answered " + got + ", due is " + want);
        }
    }

    static void due(String what, boolean got, boolean want) {
        due(what, got ? 1 : 0, want ? 1 : 0);
    }

    static void due(String what, String got, String want) {
        asked++;
        if (!got.equals(want)) {
            wrong++;
            System.out.println(what + ": answered\n" + got + "due is\n" + want);
        }
    }

    /** Loads instructions, three numbers each, into the cells from the given one on. */
    static void program(MailYard yard, int cell, int... numbers) {
        for (int i = 0; i + 2 < numbers.length; i += 3) {
            due("load of cell " + (cell + i / 3),
                    yard.load(cell + i / 3, numbers[i], numbers[i + 1], numbers[i + 2]), true);
        }
    }

    static void ticks(MailYard yard, int n) {
        for (int i = 0; i < n; i++) {
            yard.tick();
        }
    }

    /** Messages 1, 2, 3, .. from the outside. */
    static void messages(MailYard yard, int id, int n) {
        for (int i = 1; i <= n; i++) {
            due("message " + i + " for " + id, yard.inject(id, i), 1);
        }
    }

    /** The queue as digits, the front first: 312 for the ids 3, 1, 2. */
    static long queueDigits(MailYard yard) {
        long digits = 0;
        for (int k = 0; k < 8 && yard.queue(k) != 0; k++) {
            digits = digits * 10 + yard.queue(k);
        }
        return digits;
    }

    static void finish() {
        System.out.println(asked + " answers, " + wrong + " of them wrong");
        if (wrong != 0) {
            System.exit(1);
        }
    }
}
