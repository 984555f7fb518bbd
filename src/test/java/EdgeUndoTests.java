/** The edges that the document names in promises 31 to 33, and what its section "Errors" says of all calls. */
public final class EdgeUndoTests extends Checks {
    // Each of them succeeds on the busy river, one behind the other.
    private static final Calls[] CHANGES = {x -> x.bank(44), x -> x.weigh(0, 44), x -> x.join(1, 7),
        x -> x.cut(1, 0), x -> x.turn(5), x -> x.rise(2, 7), x -> readAlone(x, "t2;j6~5;b3")};

    // The text of the busy river goes first.
    private static void readAlone(FerryRounds x, String text) {
        x.append('!');
        x.read();
        read(x, text);
    }

    private static FerryRounds changed(int changes) {
        FerryRounds x = busy();
        for (int change = 0; change < changes; change++) {
            CHANGES[change].accept(x);
        }
        return x;
    }

    // ---- promise 31

    private static void p31NothingToUndo() {
        due("undo() of a new object", new FerryRounds().undo(), NOTHING);
        dueUntouched("undo() of a new object", FerryRounds::new, x -> x.undo());
        FerryRounds x = alone(1);
        due("undo()", x.undo(), 0);
        due("undo(), one too many", x.undo(), NOTHING);
        due("undo(), two too many", x.undo(), NOTHING);
        Made undone = after(Checks::busy, y -> {
            for (int i = 0; i < 8; i++) {
                y.undo();
            }
        });
        due("undo(), a ninth", undone.get().undo(), NOTHING);
        dueUntouched("undo(), a ninth", undone, y -> y.undo());
    }

    private static void p31EightOfThem() {
        for (int changes = 0; changes <= 12; changes++) {
            FerryRounds x = new FerryRounds();
            for (int bank = 0; bank < changes; bank++) {
                x.bank(bank);
            }
            int most = Math.min(8, changes);
            for (int undone = 1; undone <= most; undone++) {
                due("undo() " + undone + " of " + changes, x.undo(), most - undone);
                due("banks", x.account(0), changes - undone);
                due("account(10)", x.account(10), most - undone);
            }
            due("undo() of " + changes, x.undo(), NOTHING);
            due("banks left", x.account(0), changes - most);
        }
    }

    // The change that comes ahead of the last eight stays, whatever kind it has.
    private static void p31TheNinthOfEachKind() {
        for (int kind = 0; kind < CHANGES.length; kind++) {
            FerryRounds x = changed(kind + 1);
            String shape = shape(x);
            for (int i = 1; i <= 8; i++) {
                x.weigh(4, i);
            }
            for (int i = 7; i >= 0; i--) {
                due("undo()", x.undo(), i);
            }
            due("the change " + kind, shape(x), shape);
            due("undo(), a ninth", x.undo(), NOTHING);
        }
    }

    private static void p31EachKind() {
        for (int kind = 0; kind < CHANGES.length; kind++) {
            FerryRounds x = changed(kind);
            String before = shape(x);
            String reasons = reasons(x);
            CHANGES[kind].accept(x);
            due("the change " + kind + " changes", shape(x).equals(before) ? 1 : 0, 0);
            due("undo() of the change " + kind, x.undo(), 7);
            due("the state before the change " + kind, shape(x), before);
            due("the reasons", reasons(x), reasons);
        }
    }

    private static void p31OnlyChanges() {
        Calls[] none = {x -> x.save(), x -> x.describe(0), x -> x.tell(0), x -> x.isWell(), x -> x.mean(),
            x -> x.bank(100), x -> x.weigh(3, 99), x -> x.join(0, 4), x -> x.cut(0, 4), x -> x.turn(4),
            x -> x.rise(0, 0), x -> readAlone(x, "t3;t3"), x -> readAlone(x, "t9"), x -> readAlone(x, "b5;"),
            x -> x.append(32)};
        String before = shape(after(Checks::busy, x -> x.undo()).get());
        for (int call = 0; call < none.length; call++) {
            FerryRounds x = busy();
            for (int times = 0; times < 10; times++) {
                none[call].accept(x);
            }
            due("account(10) after the call " + call, x.account(10), 8);
            due("undo() after the call " + call, x.undo(), 7);
            due("what is undone after the call " + call, shape(x), before);
        }
    }

    private static void p31ANewChangeAfterIt() {
        FerryRounds x = river(0);
        for (int round = 0; round < 30; round++) {
            x.weigh(0, round % 3 + 1);
            x.weigh(0, round % 3 + 11);
            due("undo()", x.undo(), Math.min(7, round + 1 + 1));
            due("its weight", x.bankOf(0, 0), round % 3 + 1);
        }
        for (int left = 7; left > 0; left--) {
            due("undo()", x.undo(), left - 1);
            due("its weight", x.bankOf(0, 0), (22 + left) % 3 == 0 ? 3 : (22 + left) % 3);
        }
        due("undo()", x.undo(), NOTHING);
    }

    private static void p31ATextIsOneChange() {
        FerryRounds x = new FerryRounds();
        for (int texts = 0; texts < 9; texts++) {
            read(x, texts == 0 ? "b9;b9" : "w0=" + texts + ";w1=" + texts);
        }
        for (int left = 7; left >= 0; left--) {
            due("undo()", x.undo(), left);
            due("weights", x.account(3), left == 0 ? 18 : 2 * left);
        }
        due("undo(), a ninth text", x.undo(), NOTHING);
        due("banks", x.account(0), 2);
    }

    private static void p31WhatStays() {
        FerryRounds x = tree();
        x.weigh(0, 11);
        x.turn(3);
        x.describe(0);
        write(x, "b44");
        due("undo()", x.undo(), 7);
        due("the line stays", line(x), "0$11:3+2");
        due("the text stays", x.account(9), 3);
        dueReasons(x, 7, 3, NOTHING);
        due("the text is as it was", x.read(), 1);
        due("its weight", x.bankOf(6, 0), 44);
        due("undo() of a text", x.undo(), 7);
        due("the text does not come back", x.account(9), 0);
        x.bank(1);
        x.save();
        x.undo();
        due("the snapshot stays", x.restore(), 7);
    }

    private static void p31Accounts() {
        FerryRounds x = row();
        x.turn(5);
        x.cut(5, 6);
        x.join(0, 11);
        due("accounts", x.account(5) + 100 * x.account(6) + 10000 * x.account(7), 10112);
        x.undo();
        due("the join undone", x.account(5) + 100 * x.account(6) + 10000 * x.account(7), 10111);
        x.undo();
        due("the cut undone", x.account(5) + 100 * x.account(6) + 10000 * x.account(7), 10011);
        x.undo();
        due("the turn undone", x.account(5) + 100 * x.account(6) + 10000 * x.account(7), 11);
    }

    // ---- promise 32

    private static void p32Banks() {
        for (int banks = 0; banks <= 12; banks++) {
            FerryRounds x = alone(banks);
            due("save()", x.save(), banks);
            due("restore()", x.restore(), banks);
        }
    }

    private static void p32InPlaceOfAnEarlierOne() {
        FerryRounds x = new FerryRounds();
        for (int banks = 0; banks <= 12; banks++) {
            due("save()", x.save(), banks);
            x.bank(banks);
        }
        x.join(0, 11);
        due("restore()", x.restore(), 12);
        due("ropes", x.account(1), 0);
        x = row();
        x.save();
        x.restore();
        x.cut(5, 6);
        due("save() of less", x.save(), 12);
        x.join(0, 11);
        due("restore()", x.restore(), 12);
        due("round", round(x, 6), "6-7-8-9-10-11-10-9-8-7-6");
        due("round", round(x, 5), "0-1-2-3-4-5-4-3-2-1-0");
    }

    private static void p32IsNoChange() {
        due("seen after save()", seen(after(Checks::busy, x -> x.save()).get()), seen(busy()));
        due("reasons after save()", reasons(after(Checks::busy, x -> x.save()).get()), reasons(busy()));
        FerryRounds x = busy();
        x.save();
        due("undo() after save()", x.undo(), 7);
        due("what is undone", shape(x), shape(after(Checks::busy, y -> y.undo()).get()));
    }

    // ---- promise 33

    private static void p33NoSnapshot() {
        for (Made made : new Made[] {FerryRounds::new, Checks::tree, Checks::row}) {
            due("restore()", made.get().restore(), NOTHING);
            due("restore() twice", after(made, x -> x.restore()).get().restore(), NOTHING);
            dueUntouched("restore() without a snapshot", made, x -> x.restore());
        }
    }

    private static void p33NothingCanBeUndone() {
        FerryRounds x = busy();
        due("account(10)", x.account(10), 8);
        due("restore()", x.restore(), 7);
        due("account(10)", x.account(10), 0);
        due("undo()", x.undo(), NOTHING);
        due("restore() of the same", x.restore(), 7);
        for (int changes = 1; changes <= 9; changes++) {
            x.weigh(0, changes);
            due("account(10)", x.account(10), Math.min(8, changes));
        }
        for (int left = 7; left >= 0; left--) {
            due("undo()", x.undo(), left);
        }
        due("undo()", x.undo(), NOTHING);
        due("its weight", x.bankOf(0, 0), 1);
    }

    private static void p33ItStays() {
        String saved = shape(after(Checks::busy, x -> x.restore()).get());
        for (int changes = 0; changes <= CHANGES.length; changes++) {
            FerryRounds x = changed(changes);
            due("restore()", x.restore(), 7);
            due("the snapshot after " + changes + " changes", shape(x), saved);
        }
        FerryRounds x = busy();
        for (int times = 0; times < 5; times++) {
            due("restore()", x.restore(), 7);
            x.cut(2, 6);
            x.turn(4);
            x.rise(4, 9);
            x.bank(5);
            x.undo();
            readAlone(x, "t2;b5;b6");
        }
        x.restore();
        due("the snapshot", shape(x), saved);
    }

    private static void p33WhatStays() {
        FerryRounds x = busy();
        String line = line(x);
        x.restore();
        due("the line", line(x), line);
        due("the text's length", x.account(9), 8);
        due("the reasons", reasons(x), "7 4 -4");
        due("the text, refused in the snapshot's state", x.read(), REFUSED);
        dueReasons(x, 3, 3, 1);
        x = tree();
        x.turn(3);
        x.describe(4);
        write(x, "b8");
        x.save();
        x.bank(100);
        x.join(2, 2);
        x.describe(0);
        x.read();
        x.restore();
        due("the line is the latest", line(x), "0$10:3+2");
        due("the text is the latest", x.account(9), 0);
        dueReasons(x, 2, 2, NOTHING);
    }

    private static void p33Accounts() {
        FerryRounds x = row();
        x.turn(5);
        x.cut(5, 6);
        x.save();
        x.join(0, 11);
        x.turn(0);
        x.cut(1, 0);
        due("accounts", x.account(5) + 100 * x.account(6) + 10000 * x.account(7), 20212);
        x.restore();
        due("as in the snapshot", x.account(5) + 100 * x.account(6) + 10000 * x.account(7), 10111);
    }

    public static void main(String[] args) {
        run("promise 31: NOTHING if there is none", EdgeUndoTests::p31NothingToUndo);
        run("promise 31: at most 8", EdgeUndoTests::p31EightOfThem);
        run("promise 31: the ninth of each kind", EdgeUndoTests::p31TheNinthOfEachKind);
        run("promise 31: each kind of change", EdgeUndoTests::p31EachKind);
        run("promise 31: nothing but changes", EdgeUndoTests::p31OnlyChanges);
        run("promise 31: a new change after it", EdgeUndoTests::p31ANewChangeAfterIt);
        run("promise 31: a text is one change", EdgeUndoTests::p31ATextIsOneChange);
        run("promise 31: text, line and reasons stay", EdgeUndoTests::p31WhatStays);
        run("promise 31: accounts", EdgeUndoTests::p31Accounts);
        run("promise 32: the banks, 0 to 12", EdgeUndoTests::p32Banks);
        run("promise 32: in place of an earlier one", EdgeUndoTests::p32InPlaceOfAnEarlierOne);
        run("promise 32: no change", EdgeUndoTests::p32IsNoChange);
        run("promise 33: NOTHING without a snapshot", EdgeUndoTests::p33NoSnapshot);
        run("promise 33: nothing can be undone then", EdgeUndoTests::p33NothingCanBeUndone);
        run("promise 33: the snapshot stays", EdgeUndoTests::p33ItStays);
        run("promise 33: text, line and reasons stay", EdgeUndoTests::p33WhatStays);
        run("promise 33: accounts", EdgeUndoTests::p33Accounts);
        end();
    }
}
