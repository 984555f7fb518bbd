import java.util.function.Consumer;
import java.util.function.Supplier;

/** What the tests share: checks and counts, rivers to begin with, and all that can be seen of one. */
class Checks {
    static final int NONE = -1;
    static final int BAD = -2;
    static final int REFUSED = -3;
    static final int NOTHING = -4;
    static final int LOW = Integer.MIN_VALUE;
    static final int HIGH = Integer.MAX_VALUE;

    private static final int MOST_TOLD = 10;

    private static String test = "";
    private static int wrong;
    private static int passed;
    private static int failed;

    /** A call with a bank. */
    interface One {
        int of(FerryRounds x, int bank);
    }

    /** A call with two banks. */
    interface Two {
        int of(FerryRounds x, int one, int other);
    }

    /** Calls that answer nothing to the test. */
    interface Calls extends Consumer<FerryRounds> {
    }

    /** A river to begin with, made anew each time, so that no object has more calls than are promised. */
    interface Made extends Supplier<FerryRounds> {
    }

    // ---- checks

    static void due(String call, long got, long want) {
        if (got != want) {
            tell(call + " answered " + got + ", due is " + want);
        }
    }

    static void due(String call, String got, String want) {
        if (!got.equals(want)) {
            tell(call + " is " + got + ", due is " + want);
        }
    }

    private static void tell(String what) {
        wrong++;
        if (wrong <= MOST_TOLD) {
            System.out.println(test + ": " + what);
        }
    }

    static void dueReasons(FerryRounds x, int reason, int detail, int command) {
        due("refusal(0)", x.refusal(0), reason);
        due("refusal(1)", x.refusal(1), detail);
        due("refusal(2)", x.refusal(2), command);
    }

    static void run(String name, Runnable body) {
        test = name;
        wrong = 0;
        try {
            body.run();
        } catch (RuntimeException e) {
            tell("threw " + e);
        }
        if (wrong > 0) {
            failed++;
        } else {
            passed++;
        }
    }

    static void end() {
        System.out.println(passed + " passed, " + failed + " failed");
        System.exit(failed == 0 ? 0 : 1);
    }

    // ---- rivers

    static FerryRounds river(int... weights) {
        FerryRounds x = new FerryRounds();
        for (int weight : weights) {
            x.bank(weight);
        }
        return x;
    }

    static FerryRounds alone(int banks) {
        return river(new int[banks]);
    }

    // 0 - 1 - .. - 11 with the root 0: the longest round, and the greatest depth.
    static FerryRounds row() {
        FerryRounds x = river(1, 2, 3, 4, 5, 6, 7, 8, 9, 10, 11, 12);
        for (int bank = 1; bank < 12; bank++) {
            x.join(bank - 1, bank);
        }
        return x;
    }

    // The root 0 with all others around it: 0-11-0-10-0-..-0-1-0.
    static FerryRounds star() {
        FerryRounds x = river(1, 2, 3, 4, 5, 6, 7, 8, 9, 10, 11, 12);
        for (int bank = 1; bank < 12; bank++) {
            x.join(0, bank);
        }
        return x;
    }

    // 3 - 1 - (2, 0 - 5 - 4) with the root 3: the round 3-1-2-1-0-5-4-5-0-1-3.
    static FerryRounds tree() {
        FerryRounds x = river(10, 20, 30, 5, 15, 25);
        x.join(1, 0);
        x.join(1, 2);
        x.join(3, 1);
        x.join(4, 5);
        x.join(0, 5);
        return x;
    }

    // The tree with 8 changes that can be undone, a bank alone, a snapshot, a line, a text and reasons.
    static FerryRounds busy() {
        FerryRounds x = tree();
        x.bank(7);
        x.join(2, 6);
        x.save();
        x.turn(4);
        x.cut(2, 6);
        x.weigh(3, 99);
        x.describe(5);
        write(x, "b44;j5~6");
        x.turn(4);
        return x;
    }

    // ---- texts and rows

    static void write(FerryRounds x, String text) {
        for (int i = 0; i < text.length(); i++) {
            x.append(text.charAt(i));
        }
    }

    static int read(FerryRounds x, String text) {
        write(x, text);
        return x.read();
    }

    static String line(FerryRounds x) {
        StringBuilder line = new StringBuilder();
        for (int code = x.sign(0); code != NONE; code = x.sign(line.length())) {
            line.append((char) code);
        }
        return line.toString();
    }

    static String round(FerryRounds x, int bank) {
        StringBuilder round = new StringBuilder();
        int there = x.inRound(bank, 0);
        for (int place = 1; there != NONE; place++) {
            round.append(place == 1 ? "" : "-").append(there);
            there = x.inRound(bank, place);
        }
        return round.toString();
    }

    // ---- all that can be seen

    static String reasons(FerryRounds x) {
        return x.refusal(0) + " " + x.refusal(1) + " " + x.refusal(2);
    }

    // Banks, ropes and rounds, and all accounts but those of the text and of undo.
    static String shape(FerryRounds x) {
        StringBuilder all = new StringBuilder("accounts");
        for (int what = 0; what <= 8; what++) {
            all.append(' ').append(x.account(what));
        }
        int banks = x.account(0);
        for (int bank = 0; bank < banks; bank++) {
            all.append("; bank ").append(bank);
            for (int what = 0; what <= 8; what++) {
                all.append(' ').append(x.bankOf(bank, what));
            }
            all.append(' ').append(x.belowAgain(bank));
            if (x.bankOf(bank, 2) == 0) {
                all.append(" round ").append(round(x, bank));
            }
        }
        return all.toString();
    }

    // The same with the text's length, the changes that can be undone, and the line.
    static String seen(FerryRounds x) {
        return shape(x) + "; text " + x.account(9) + "; changes " + x.account(10) + "; line " + line(x);
    }

    // What is seen now, after each undo, after restore, and after the text is read.
    static String story(Made made) {
        StringBuilder all = new StringBuilder("now: ").append(seen(made.get()));
        for (int undone = 1; undone <= 9; undone++) {
            FerryRounds x = made.get();
            int answer = NOTHING;
            for (int i = 0; i < undone; i++) {
                answer = x.undo();
            }
            all.append("\n undo ").append(undone).append(" = ").append(answer).append(": ").append(shape(x));
        }
        FerryRounds x = made.get();
        all.append("\n restore = ").append(x.restore()).append(": ").append(seen(x));
        x = made.get();
        all.append("\n read = ").append(x.read()).append(": ").append(seen(x));
        return all.toString();
    }

    static Made after(Made made, Calls calls) {
        return () -> {
            FerryRounds x = made.get();
            calls.accept(x);
            return x;
        };
    }

    // The calls leave everything as it was, but for the reasons.
    static void dueUnchanged(String name, Made made, Calls calls) {
        due("what is seen after " + name, story(after(made, calls)), story(made));
    }

    // The calls leave the reasons as they were, too.
    static void dueUntouched(String name, Made made, Calls calls) {
        dueUnchanged(name, made, calls);
        due("the reasons after " + name, reasons(after(made, calls).get()), reasons(made.get()));
    }

    // ---- banks that are not there

    static void dueNoSuchBank(String name, One call) {
        for (int banks : new int[] {0, 1, 6, 12}) {
            for (int bank : new int[] {LOW, LOW + 1, -2, -1, banks, banks + 1, 12, 13, 32, HIGH}) {
                due(name + " of " + banks + " banks with " + bank, call.of(alone(banks), bank), NONE);
            }
            for (int bank = 0; bank < banks; bank++) {
                due(name + " of " + banks + " banks finds " + bank, call.of(alone(banks), bank) == NONE ? 0 : 1, 1);
            }
        }
    }

    static void dueNoSuchBankOfTwo(String name, Two call) {
        dueNoSuchBank(name + " twice", (x, bank) -> call.of(x, bank, bank));
        dueNoSuchBank(name + " with the one", (x, bank) -> call.of(x, bank, Math.max(0, x.account(0) - 1)));
        dueNoSuchBank(name + " with the other", (x, bank) -> call.of(x, 0, bank));
    }
}
