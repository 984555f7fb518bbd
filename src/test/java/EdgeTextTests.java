import java.util.regex.Matcher;
import java.util.regex.Pattern;

/** The edges that the document names in promises 22 to 30: lines, texts and accounts. */
public final class EdgeTextTests extends Checks {
    private static final String COMMAND =
            "(?:b\\d{1,2}|w\\d{1,2}=\\d{1,2}|[jc]\\d{1,2}~\\d{1,2}|t\\d{1,2}|u\\d{1,2}[+-]\\d{1,2})";
    private static final Pattern TEXT = Pattern.compile(COMMAND + "(?:;" + COMMAND + ")*");
    private static final int NO_FAULT = -1;

    // With as many characters as a text can have, and each kind of command.
    private static final String FULL = "b5;b1;b2;w0=50;j0~01;j1~2;c1~00;t2;u02-1;u2+99;w2=3;c2~1;j2~0;t0;b9;b3";

    // The busy river with an empty text.
    private static FerryRounds textless() {
        FerryRounds x = busy();
        x.append('!');
        x.read();
        return x;
    }

    // ---- promises 22 to 24

    private static void dueLine(String name, FerryRounds x, int length, String want) {
        due(name, length, want.length());
        due(name + ": line", line(x), want);
    }

    private static void p22() {
        FerryRounds x = alone(1);
        dueLine("the shortest", x, x.describe(0), "0$0:0+0");
        x = river(0, 0, 0, 0, 0, 0, 0, 0, 0, 9, 10, 99);
        dueLine("one digit", x, x.describe(9), "9$9:9+0");
        dueLine("two digits", x, x.describe(10), "10$10:10+0");
        dueLine("two digits", x, x.describe(11), "11$99:11+0");
        x.join(11, 9);
        for (int bank = 8; bank >= 0; bank--) {
            x.join(bank + 1, bank);
        }
        dueLine("the depth 9", x, x.describe(1), "1$0:11+9");
        dueLine("the depth 10", x, x.describe(0), "0$0:11+10");
        x.join(0, 10);
        dueLine("the depth 11", x, x.describe(10), "10$10:11+11");
        x.turn(10);
        dueLine("the depth 11, turned", x, x.describe(11), "11$99:10+11");
    }

    private static void p22NoSuchBankLeavesTheLine() {
        for (int bank : new int[] {LOW, -1, 7, 12, HIGH}) {
            dueUntouched("describe(" + bank + ")", Checks::busy, x -> x.describe(bank));
            dueUntouched("tell(" + bank + ")", Checks::busy, x -> x.tell(bank));
        }
        dueUntouched("describe(5) once more", Checks::busy, x -> x.describe(5));
    }

    private static void p23() {
        FerryRounds x = alone(12);
        for (int bank = 0; bank < 12; bank++) {
            dueLine("a bank alone", x, x.tell(bank), "" + bank);
        }
        for (int bank = 0; bank < 12; bank++) {
            if (bank != 11) {
                x.join(11, bank);
            }
        }
        dueLine("the longest", x, x.tell(3), "11-10-11-9-11-8-11-7-11-6-11-5-11-4-11-3-11-2-11-1-11-0-11");
        x = row();
        dueLine("a row", x, x.tell(11), "0-1-2-3-4-5-6-7-8-9-10-11-10-9-8-7-6-5-4-3-2-1-0");
        x.cut(0, 1);
        dueLine("what is left", x, x.tell(0), "0");
    }

    private static void p24() {
        for (int index : new int[] {LOW, LOW + 1, -2, -1, 0, 1, HIGH}) {
            due("sign(" + index + ") of an empty line", busyWithoutLine().sign(index), NONE);
        }
        FerryRounds x = alone(12);
        x.tell(0);
        due("sign(0)", x.sign(0), '0');
        due("sign(1)", x.sign(1), NONE);
        for (int bank = 0; bank < 11; bank++) {
            x.join(11, bank);
        }
        int length = x.tell(0);
        due("the longest", length, 58);
        due("sign(0)", x.sign(0), '1');
        due("sign(2)", x.sign(2), '-');
        due("sign(57)", x.sign(57), '1');
        due("sign(58)", x.sign(58), NONE);
        due("sign(-1)", x.sign(-1), NONE);
        due("sign(low)", x.sign(LOW), NONE);
        due("sign(high)", x.sign(HIGH), NONE);
        x.describe(0);
        due("sign(8), in place of the line before", x.sign(8), NONE);
        due("sign(7)", x.sign(7), '1');
    }

    private static FerryRounds busyWithoutLine() {
        FerryRounds x = tree();
        write(x, "b5");
        x.turn(3);
        x.describe(6);
        x.tell(-1);
        return x;
    }

    private static void p24TheLineStays() {
        FerryRounds x = row();
        x.describe(11);
        x.weigh(11, 50);
        x.turn(11);
        x.save();
        x.undo();
        x.restore();
        x.isWell();
        read(x, "b5");
        read(x, "u0+1");
        due("line", line(x), "11$12:0+11");
    }

    // ---- promise 25

    private static void p25Codes() {
        for (int code = 32; code <= 126; code++) {
            due("append(" + code + ")", new FerryRounds().append(code), 1);
        }
        for (int code : new int[] {LOW, LOW + 98, -98, -1, 0, 9, 10, 31, 127, 128, 255, 256 + 98, 65536 + 98,
            HIGH - 1, HIGH}) {
            due("append(" + code + ")", new FerryRounds().append(code), BAD);
            dueUntouched("append(" + code + ")", Checks::busy, x -> x.append(code));
        }
    }

    private static void p25Seventy() {
        FerryRounds x = new FerryRounds();
        for (int length = 1; length <= 70; length++) {
            due("append", x.append(32 + length), length);
            due("account(9)", x.account(9), length);
        }
        for (int code : new int[] {32, 98, 126, 31, 127, LOW, HIGH}) {
            due("append(" + code + "), a 71st", x.append(code), BAD);
            due("account(9)", x.account(9), 70);
        }
        Made full = after(FerryRounds::new, y -> write(y, FULL));
        dueUntouched("append, a 71st", full, y -> y.append(';'));
        due("the full text, a 71st refused", after(full, y -> y.append('5')).get().read(), 16);
    }

    // ---- promise 26

    private static int faultIn(String text) {
        Matcher matcher = TEXT.matcher("");
        for (int length = 1; length <= text.length(); length++) {
            matcher.reset(text.substring(0, length));
            if (!matcher.matches() && !matcher.hitEnd()) {
                return length - 1;
            }
        }
        return TEXT.matcher(text).matches() ? NO_FAULT : text.length();
    }

    private static void dueFault(String text) {
        int fault = faultIn(text);
        FerryRounds x = new FerryRounds();
        int answer = read(x, text);
        if (fault != NO_FAULT) {
            due("read of '" + text + "'", answer, -100 - fault);
            due("account(0)", x.account(0), 0);
        } else if (answer <= 0 && answer != BAD && answer != REFUSED) {
            due("read of '" + text + "', which is right,", answer, BAD);
        }
        due("account(9)", x.account(9), 0);
    }

    private static void p26ShortTexts() {
        String signs = "bwjctu19;=~+- ";
        int count = signs.length();
        dueFault("");
        for (int number = 0; number < count * count * count * count; number++) {
            StringBuilder text = new StringBuilder();
            for (int rest = number; rest > 0 || text.length() == 0; rest /= count) {
                text.append(signs.charAt(rest % count));
            }
            dueFault(text.toString());
        }
    }

    private static void p26EachEditOfAFullText() {
        due("length", FULL.length(), 70);
        due("fault", faultIn(FULL), NO_FAULT);
        due("read of the full text", read(new FerryRounds(), FULL), 16);
        for (int at = 0; at < 70; at++) {
            dueFault(FULL.substring(0, at));
            dueFault(FULL.substring(at));
            dueFault(FULL.substring(0, at) + FULL.substring(at + 1));
            for (char code = 32; code <= 126; code++) {
                dueFault(FULL.substring(0, at) + code + FULL.substring(at + 1));
                dueFault(FULL.substring(0, at) + code + FULL.substring(at, 69));
            }
        }
    }

    private static void p26Ends() {
        due("the empty text", busyRead(""), -100);
        due("one character", busyRead("b"), -101);
        due("the shortest", busyRead("b5"), 1);
        String start = "w0=1;w0=2;w0=3;w0=4;w0=5;w0=6;w0=7;w0=8;w0=9;w0=1;w0=2;w0=3;w0=4;";
        due("too early at 65", busyRead(start), -165);
        due("too early at 66", busyRead(start + "w"), -166);
        due("too early at 69", busyRead(start + "w12="), -169);
        due("too early at 70", busyRead(start + "w0=5;"), -170);
        due("too early at 70", busyRead(start + "u012+"), -168);
        due("a fault at 69", busyRead(start + "w0=5w"), -169);
        due("70 characters", busyRead(start + "w0=55"), 14);
        due("read() twice", after(Checks::busy, x -> x.read()).get().read(), -100);
    }

    private static int busyRead(String text) {
        return read(textless(), text);
    }

    private static void p26OneOrTwoDigits() {
        FerryRounds x = alone(11);
        due("b", read(x, "b00"), 1);
        due("w", read(x, "w00=99;w01=09;w11=9;w9=1"), 4);
        due("weights", x.account(3), 99 + 9 + 9 + 1);
        due("j", read(x, "j00~11;j11~01"), 2);
        due("round", round(x, 1), "0-11-1-11-0");
        due("t", read(x, "t01;t11"), 2);
        due("u", read(x, "u00-00"), REFUSED);
        dueReasons(x, 6, 3, 0);
        due("u", read(x, "u00-01;u11+99;u1-99"), 3);
        due("weights", x.account(3), 1);
        due("c", read(x, "c01~11;c0~11"), 2);
        due("parts", x.account(2), 12);
    }

    private static void p26NumberOfCommands() {
        StringBuilder text = new StringBuilder("t0");
        for (int commands = 1; commands <= 23; commands++) {
            FerryRounds x = row();
            x.turn(5);
            due("read of " + commands, read(x, text.toString()), commands);
            due("turns", x.account(7), commands + 1);
            text.append(commands % 2 == 0 ? ";t0" : ";t1");
        }
    }

    private static void p26TwelveBanksAndAThirteenth() {
        String twelve = "b0;b1;b2;b3;b4;b5;b6;b7;b8;b9;b10;b99";
        FerryRounds x = new FerryRounds();
        due("12 banks", read(x, twelve), 12);
        due("account(0)", x.account(0), 12);
        x = new FerryRounds();
        due("13 banks", read(x, twelve + ";b5"), REFUSED);
        dueReasons(x, 1, 12, 12);
        due("account(0)", x.account(0), 0);
        due("account(10)", x.account(10), 0);
    }

    private static void p26AllOrNone() {
        String[] wrong = {"", "b", "b5;", "b5;x", "b5;t0;c0~1;;", "b5;b123", " "};
        String[] bad = {"t7", "b5;t8", "b5;w0=1;u0+5;t0;j7~0;c1~3;t12", "w99=5", "j0~7", "j7~0", "c0~7", "c7~0",
            "u7+1", "b1;t8;t99"};
        String[] refused = {"t4", "b5;t4", "b5;w0=1;u0+5;t0;j7~0;c1~3;t3", "w3=99", "j6~6", "j4~5", "c0~4",
            "u6+0", "u6-99;u6-1", "b1;b1;b1;b1;b1;b1"};
        for (String text : wrong) {
            due("read of '" + text + "'", busyRead(text) <= -100 ? 1 : 0, 1);
            dueUntouched("a wrong text, " + text, EdgeTextTests::textless, x -> read(x, text));
        }
        for (String text : bad) {
            due("read of '" + text + "'", busyRead(text), BAD);
            dueUntouched("a bad text, " + text, EdgeTextTests::textless, x -> read(x, text));
        }
        for (String text : refused) {
            due("read of '" + text + "'", busyRead(text), REFUSED);
            dueUnchanged("a refused text, " + text, EdgeTextTests::textless, x -> read(x, text));
        }
    }

    // What stands behind the first command that fails is neither carried out nor refused.
    private static void p26TheFirstThatFails() {
        String[] bad = {"t9", "w9=1", "j9~0", "j0~9", "c9~0", "c0~9", "u9+1", "j9~9", "c9~9", "u9-0"};
        String[] refused = {"t4", "w3=99", "j6~6", "j4~5", "c0~4", "u6+0"};
        int[][] due = {{7, 4}, {5, 99}, {2, 6}, {3, 4}, {4, 0}, {6, 1}};
        for (String first : bad) {
            for (int kind = 0; kind < refused.length; kind++) {
                String badFirst = "b9;" + first + ";" + refused[kind];
                due("read of '" + badFirst + "'", busyRead(badFirst), BAD);
                dueUntouched(badFirst, EdgeTextTests::textless, x -> read(x, badFirst));
                String refusedFirst = "b9;" + refused[kind] + ";" + first;
                due("read of '" + refusedFirst + "'", busyRead(refusedFirst), REFUSED);
                dueUnchanged(refusedFirst, EdgeTextTests::textless, x -> read(x, refusedFirst));
                FerryRounds x = textless();
                read(x, refusedFirst);
                dueReasons(x, due[kind][0], due[kind][1], 1);
            }
        }
        FerryRounds x = river(1, 2);
        due("read, nothing was refused before", read(x, "b9;t9;t0;j0~0"), BAD);
        dueReasons(x, NOTHING, NOTHING, NOTHING);
        due("read, two that are refused", read(x, "b9;t1;j0~0"), REFUSED);
        dueReasons(x, 7, 1, 1);
        due("read, two that are bad, then a refused one", read(x, "t9;u9+1;j0~0"), BAD);
        dueReasons(x, 7, 1, 1);
    }

    private static void p26WrongAheadOfRefused() {
        FerryRounds x = river(1, 2);
        due("refused, then wrong", read(x, "t0;t0;b"), -107);
        due("bad, then wrong", read(x, "t9;;"), -103);
        due("no reason", x.refusal(0), NOTHING);
        due("refused, then bad", read(x, "t0;t9"), REFUSED);
        dueReasons(x, 7, 0, 0);
        due("bad, then refused", read(x, "t9;t1"), BAD);
        dueReasons(x, 7, 0, 0);
    }

    // ---- promise 27

    private static void p27NoSuchWhat() {
        for (int what : new int[] {LOW, LOW + 1, -2, -1, 3, 4, HIGH - 1, HIGH}) {
            due("refusal(" + what + ") where nothing was refused", new FerryRounds().refusal(what), BAD);
            due("refusal(" + what + ")", busy().refusal(what), BAD);
        }
    }

    private static void p27NothingWasRefused() {
        FerryRounds x = row();
        x.bank(100);
        x.weigh(12, 1);
        x.weigh(0, 100);
        x.join(0, 12);
        x.cut(-1, 0);
        x.turn(12);
        x.rise(12, 0);
        x.rise(0, 100);
        x.meet(0, 12);
        x.would(0, 1);
        x.wouldDiffer(0, 5);
        x.append(31);
        x.read();
        read(x, "t12");
        x.account(11);
        x.restore();
        for (int i = 0; i < 9; i++) {
            x.undo();
        }
        dueReasons(x, NOTHING, NOTHING, NOTHING);
    }

    private static void p27TheLastOneCounts() {
        FerryRounds x = row();
        Calls[] calls = {y -> y.bank(0), y -> y.join(3, 3), y -> y.join(5, 3), y -> y.cut(5, 3),
            y -> y.weigh(5, 6), y -> y.rise(5, 0), y -> y.turn(0), y -> read(y, "b0"), y -> read(y, "t5;j3~3"),
            y -> read(y, "w5=7;j5~3"), y -> read(y, "t5;c5~3"), y -> read(y, "w5=7;w5=07"),
            y -> read(y, "w5=7;c5~4;u5-0"), y -> read(y, "w5=7;w5=6;t0")};
        int[][] due = {{1, 12, NOTHING}, {2, 3, NOTHING}, {3, 0, NOTHING}, {4, 5, NOTHING},
            {5, 6, NOTHING}, {6, 12, NOTHING}, {7, 0, NOTHING}, {1, 12, 0}, {2, 3, 1},
            {3, 0, 1}, {4, 5, 1}, {5, 7, 1}, {6, 7, 2}, {7, 0, 2}};
        for (int call = 0; call < calls.length; call++) {
            calls[call].accept(x);
            dueReasons(x, due[call][0], due[call][1], due[call][2]);
        }
    }

    private static void p27AnotherCallThanRead() {
        Calls[] calls = {x -> x.bank(0), x -> x.weigh(0, 1), x -> x.join(0, 0), x -> x.join(0, 1), x -> x.cut(0, 2),
            x -> x.turn(0), x -> x.rise(0, 0)};
        int[] reasons = {1, 5, 2, 3, 4, 7, 6};
        for (String text : new String[] {"w5=50;w5=6", "t0", "w5=50;t12", "t0;", ""}) {
            for (int call = 0; call < calls.length; call++) {
                FerryRounds x = row();
                read(x, text);
                calls[call].accept(x);
                due("refusal(0)", x.refusal(0), reasons[call]);
                due("refusal(2) after read of '" + text + "'", x.refusal(2), NOTHING);
            }
        }
    }

    private static void p27ReasonsStay() {
        FerryRounds x = row();
        read(x, "t1;c5~3");
        x.turn(3);
        x.weigh(0, 50);
        x.save();
        read(x, "b5;");
        read(x, "t12");
        read(x, "t5");
        x.bank(-1);
        x.undo();
        x.restore();
        dueReasons(x, 4, 5, 1);
    }

    // ---- promise 28

    private static void p28NoSuchWhat() {
        for (int what : new int[] {LOW, LOW + 1, -2, -1, 11, 12, HIGH - 1, HIGH}) {
            due("account(" + what + ") without banks", new FerryRounds().account(what), BAD);
            due("account(" + what + ")", busy().account(what), BAD);
        }
    }

    private static void p28TheGreatest() {
        int[] alone = {12, 0, 12, 0, 12, 0, 0, 0, 0, 0, 8};
        int[] row = {12, 11, 1, 1188, 23, 11, 0, 0, 11, 70, 8};
        int[] star = {12, 11, 1, 78, 23, 11, 0, 0, 1, 0, 8};
        FerryRounds x = row();
        x.rise(0, 99);
        write(x, FULL);
        for (int what = 0; what <= 10; what++) {
            due("account(" + what + ") alone", alone(12).account(what), alone[what]);
            due("account(" + what + ") of a row", x.account(what), row[what]);
            due("account(" + what + ") of a star", star().account(what), star[what]);
        }
    }

    private static void p28PartsAndPlaces() {
        FerryRounds x = alone(12);
        for (int ropes = 1; ropes <= 11; ropes++) {
            x.join(ropes - 1, ropes);
            due("ropes", x.account(1), ropes);
            due("parts", x.account(2), 12 - ropes);
            due("places", x.account(4), 12 + ropes);
            due("depth", x.account(8), ropes);
        }
        for (int ropes = 10; ropes >= 0; ropes--) {
            x.cut(ropes, ropes + 1);
            due("ropes", x.account(1), ropes);
            due("parts", x.account(2), 12 - ropes);
            due("places", x.account(4), 12 + ropes);
            due("depth", x.account(8), ropes);
        }
        due("joined", x.account(5), 11);
        due("cut", x.account(6), 11);
    }

    private static void p28WhatCounts() {
        FerryRounds x = river(1, 2, 3, 4);
        x.join(0, 1);
        x.join(3, 2);
        x.join(1, 3);
        due("a join turns, but this does not count", x.account(7), 0);
        due("joined", x.account(5), 3);
        x.join(0, 2);
        x.join(0, 0);
        x.cut(0, 2);
        x.turn(0);
        x.turn(-1);
        due("refused ones do not count", x.account(5) + 100 * x.account(6) + 10000 * x.account(7), 3);
        read(x, "t2;c0~1;j0~2;t0");
        due("a refused text does not count", x.account(5) + 100 * x.account(6) + 10000 * x.account(7), 3);
        read(x, "t2;c0~1;j0~2;t1;t3");
        due("those of texts count, too", x.account(5) + 100 * x.account(6) + 10000 * x.account(7), 30104);
        x.turn(0);
        due("so do those of turn", x.account(7), 4);
        x.cut(0, 2);
        due("and those of cut", x.account(6), 2);
    }

    private static void p28Changes() {
        FerryRounds x = river(0);
        for (int changes = 1; changes <= 20; changes++) {
            due("account(10)", x.account(10), Math.min(8, changes));
            x.weigh(0, changes);
            x.weigh(0, changes);
            x.weigh(0, 100);
        }
        due("account(10)", x.account(10), 8);
    }

    // ---- promise 29

    private static void p29() {
        for (Made made : new Made[] {FerryRounds::new, () -> alone(1), () -> alone(12), Checks::row, Checks::star,
            Checks::tree, Checks::busy}) {
            due("isWell()", made.get().isWell(), 1);
            for (int bank = 0; bank < 12; bank++) {
                int turned = bank;
                due("isWell(), turned", after(made, x -> x.turn(turned)).get().isWell(), 1);
                due("isWell(), cut", after(made, x -> x.cut(turned, turned + 1)).get().isWell(), 1);
                due("isWell(), cut", after(made, x -> x.cut(0, turned)).get().isWell(), 1);
                due("isWell(), joined", after(made, x -> x.join(turned, 6)).get().isWell(), 1);
            }
        }
    }

    // ---- promise 30

    // Banks of which each is as deep as can be, until the sum of depths is this one.
    private static FerryRounds deep(int banks, int sum) {
        FerryRounds x = alone(banks);
        int left = sum;
        for (int bank = 1; bank < banks && left > 0; bank++) {
            int depth = Math.min(bank, left);
            x.join(depth - 1, bank);
            left -= depth;
        }
        return x;
    }

    private static void p30() {
        for (int banks = 1; banks <= 12; banks++) {
            for (int sum = 0; sum <= banks * (banks - 1) / 2; sum++) {
                due("mean() of " + sum + " / " + banks, deep(banks, sum).mean(),
                        Float.floatToIntBits((float) sum / (float) banks));
            }
        }
        due("mean() without banks", new FerryRounds().mean(), NOTHING);
        due("mean(), undone", after(() -> alone(1), x -> x.undo()).get().mean(), NOTHING);
        due("mean() of a bank alone", alone(1).mean(), 0);
        due("mean(), the greatest", row().mean(), Float.floatToIntBits(5.5f));
    }

    public static void main(String[] args) {
        run("promise 22: no such bank", () -> dueNoSuchBank("describe", FerryRounds::describe));
        run("promise 22: the shortest and the longest", EdgeTextTests::p22);
        run("promises 22 and 23: an error leaves the line", EdgeTextTests::p22NoSuchBankLeavesTheLine);
        run("promise 23: no such bank", () -> dueNoSuchBank("tell", FerryRounds::tell));
        run("promise 23: the shortest and the longest", EdgeTextTests::p23);
        run("promise 24: indexes, empty at first", EdgeTextTests::p24);
        run("promise 24: the line stays", EdgeTextTests::p24TheLineStays);
        run("promise 25: from 32 to 126", EdgeTextTests::p25Codes);
        run("promise 25: 70 characters", EdgeTextTests::p25Seventy);
        run("promise 26: fault positions of short texts", EdgeTextTests::p26ShortTexts);
        run("promise 26: fault positions of full texts", EdgeTextTests::p26EachEditOfAFullText);
        run("promise 26: the empty text and full ones", EdgeTextTests::p26Ends);
        run("promise 26: one or two digits", EdgeTextTests::p26OneOrTwoDigits);
        run("promise 26: the number of commands", EdgeTextTests::p26NumberOfCommands);
        run("promise 26: 12 banks and a 13th", EdgeTextTests::p26TwelveBanksAndAThirteenth);
        run("promise 26: all or none", EdgeTextTests::p26AllOrNone);
        run("promise 26: the first command that fails", EdgeTextTests::p26TheFirstThatFails);
        run("promise 26: errors in their order", EdgeTextTests::p26WrongAheadOfRefused);
        run("promise 27: no such what", EdgeTextTests::p27NoSuchWhat);
        run("promise 27: nothing was refused", EdgeTextTests::p27NothingWasRefused);
        run("promise 27: the last one counts", EdgeTextTests::p27TheLastOneCounts);
        run("promise 27: NOTHING for another call than read", EdgeTextTests::p27AnotherCallThanRead);
        run("promise 27: reasons stay", EdgeTextTests::p27ReasonsStay);
        run("promise 28: no such what", EdgeTextTests::p28NoSuchWhat);
        run("promise 28: the greatest", EdgeTextTests::p28TheGreatest);
        run("promise 28: parts and places", EdgeTextTests::p28PartsAndPlaces);
        run("promise 28: what counts", EdgeTextTests::p28WhatCounts);
        run("promise 28: changes up to 8", EdgeTextTests::p28Changes);
        run("promise 29: after each change", EdgeTextTests::p29);
        run("promise 30: each sum of each number of banks", EdgeTextTests::p30);
        end();
    }
}
