/** The edges that the document names in promises 1 to 7: a new object, and what changes it. */
public final class EdgeChangeTests extends Checks {

    // ---- what it is, and promise 1

    private static void howManyCalls() {
        FerryRounds x = river(1, 2);
        x.join(0, 1);
        for (int turns = 0; turns < 508; turns++) {
            x.turn(turns % 2 == 0 ? 1 : 0);
        }
        due("the 512th call, account(7)", x.account(7), 508);
        x = river(1, 2);
        for (int ropes = 0; ropes < 254; ropes++) {
            x.join(0, 1);
            x.cut(1, 0);
        }
        x.join(1, 0);
        due("the 512th call, account(5)", x.account(5), 255);
        x = river(0);
        for (int call = 2; call < 512; call++) {
            due("weigh", x.weigh(0, (call - 1) % 100), (call - 2) % 100);
        }
        due("the 512th call, undo()", x.undo(), 7);
        x = new FerryRounds();
        for (int call = 1; call < 512; call++) {
            due("append", x.append(59), call <= 70 ? call : BAD);
        }
        due("the 512th call, read()", x.read(), -100);
    }

    private static void p01Accounts() {
        for (int what = 0; what <= 10; what++) {
            due("account(" + what + ")", new FerryRounds().account(what), 0);
        }
    }

    private static void p01Questions() {
        due("ranked(0)", new FerryRounds().ranked(0), NONE);
        due("sign(0)", new FerryRounds().sign(0), NONE);
        due("read()", new FerryRounds().read(), -100);
        due("refusal(0)", new FerryRounds().refusal(0), NOTHING);
        due("isWell()", new FerryRounds().isWell(), 1);
        due("mean()", new FerryRounds().mean(), NOTHING);
        due("undo()", new FerryRounds().undo(), NOTHING);
        due("save()", new FerryRounds().save(), 0);
        due("restore()", new FerryRounds().restore(), NOTHING);
    }

    private static void p01Apart() {
        FerryRounds x = busy();
        String seen = seen(busy());
        FerryRounds other = new FerryRounds();
        other.bank(1);
        other.append(98);
        other.describe(0);
        other.turn(0);
        other.save();
        due("one object after calls of another", seen(x), seen);
        due("its reasons", reasons(x), "7 4 -4");
        due("another new object", seen(new FerryRounds()), "accounts 0 0 0 0 0 0 0 0 0; text 0; changes 0; line ");
    }

    // ---- promise 2

    private static void p02Weights() {
        for (int weight : new int[] {0, 1, 98, 99}) {
            FerryRounds x = new FerryRounds();
            due("bank(" + weight + ")", x.bank(weight), 0);
            due("its weight", x.bankOf(0, 0), weight);
        }
        for (int weight : new int[] {LOW, LOW + 1, -100, -99, -2, -1, 100, 101, 199, HIGH - 1, HIGH}) {
            due("bank(" + weight + ")", new FerryRounds().bank(weight), BAD);
            dueUntouched("bank(" + weight + ")", Checks::busy, x -> x.bank(weight));
        }
    }

    private static void p02Twelve() {
        FerryRounds x = new FerryRounds();
        for (int bank = 0; bank < 12; bank++) {
            due("bank", x.bank(99), bank);
        }
        due("a 13th", x.bank(99), REFUSED);
        dueReasons(x, 1, 12, NOTHING);
        due("a 14th", x.bank(0), REFUSED);
        due("account(0)", x.account(0), 12);
        x.undo();
        due("a 12th once more", x.bank(3), 11);
        dueUnchanged("a 13th bank", Checks::row, y -> y.bank(5));
    }

    private static void p02BadComesFirst() {
        for (int weight : new int[] {LOW, -1, 100, HIGH}) {
            due("bank(" + weight + ") with 12 banks", row().bank(weight), BAD);
            dueUntouched("bank(" + weight + ") with 12 banks", Checks::row, x -> x.bank(weight));
        }
    }

    private static void p02APartOfItsOwn() {
        FerryRounds x = tree();
        due("bank(8)", x.bank(8), 6);
        due("parts", x.account(2), 2);
        due("its round has it once", round(x, 6), "6");
        due("its ropes", x.bankOf(6, 5), 0);
        due("the other round", round(x, 0), "3-1-2-1-0-5-4-5-0-1-3");
    }

    // ---- promise 3

    private static void p03NoSuchBank() {
        dueNoSuchBank("weigh", (x, bank) -> x.weigh(bank, 50));
        for (int bank : new int[] {LOW, -1, 7, HIGH}) {
            dueUntouched("weigh(" + bank + ", 5)", Checks::busy, x -> x.weigh(bank, 5));
        }
    }

    private static void p03Weights() {
        for (int weight : new int[] {0, 1, 49, 51, 98, 99}) {
            FerryRounds x = river(50, 50);
            due("weigh(1, " + weight + ")", x.weigh(1, weight), 50);
            due("its weight", x.bankOf(1, 0), weight);
            due("the other weight", x.bankOf(0, 0), 50);
        }
        for (int weight : new int[] {LOW, -99, -1, 100, 101, HIGH}) {
            due("weigh(0, " + weight + ")", river(50).weigh(0, weight), BAD);
            dueUntouched("weigh(0, " + weight + ")", Checks::busy, x -> x.weigh(0, weight));
        }
    }

    private static void p03SoAlready() {
        for (int weight : new int[] {0, 1, 50, 99}) {
            FerryRounds x = river(weight);
            due("weigh(0, " + weight + ")", x.weigh(0, weight), REFUSED);
            dueReasons(x, 5, weight, NOTHING);
        }
        dueUnchanged("weigh(3, 99)", Checks::busy, x -> x.weigh(3, 99));
    }

    private static void p03NoneComesFirst() {
        due("weigh(12, 100) of 12", row().weigh(12, 100), NONE);
        due("weigh(-1, -1) of 12", row().weigh(-1, -1), NONE);
        due("weigh(low, low) of 12", row().weigh(LOW, LOW), NONE);
        due("weigh(0, 0) without banks", river().weigh(0, 0), NONE);
    }

    // ---- promise 4

    private static void p04NoSuchBank() {
        dueNoSuchBankOfTwo("join", (x, one, other) -> x.join(one, other));
        for (int bank : new int[] {LOW, -1, 7, HIGH}) {
            dueUntouched("join(" + bank + ", 0)", Checks::busy, x -> x.join(bank, 0));
            dueUntouched("join(0, " + bank + ")", Checks::busy, x -> x.join(0, bank));
            dueUntouched("join(" + bank + ", the same)", Checks::busy, x -> x.join(bank, bank));
        }
    }

    private static void p04BothAreOne() {
        for (int bank = 0; bank < 12; bank++) {
            FerryRounds x = row();
            due("join(" + bank + ", the same)", x.join(bank, bank), REFUSED);
            dueReasons(x, 2, bank, NOTHING);
            x = alone(12);
            due("join(" + bank + ", the same) of banks alone", x.join(bank, bank), REFUSED);
            dueReasons(x, 2, bank, NOTHING);
        }
        dueUnchanged("join(5, 5)", Checks::busy, x -> x.join(5, 5));
    }

    private static void p04BothOfOnePart() {
        for (int one = 0; one < 6; one++) {
            for (int other = 0; other < 6; other++) {
                FerryRounds x = tree();
                due("join(" + one + ", " + other + ")", x.join(one, other), REFUSED);
                dueReasons(x, one == other ? 2 : 3, one == other ? one : 3, NOTHING);
            }
        }
        FerryRounds x = row();
        due("join(11, 0), a ring of 12", x.join(11, 0), REFUSED);
        dueReasons(x, 3, 0, NOTHING);
        x.turn(11);
        due("join(0, 11), turned", x.join(0, 11), REFUSED);
        dueReasons(x, 3, 11, NOTHING);
        dueUnchanged("join(3, 4), tied already", Checks::busy, y -> y.join(5, 4));
        dueUnchanged("join(0, 4), a ring", Checks::busy, y -> y.join(0, 4));
    }

    private static void p04BanksAlone() {
        FerryRounds x = alone(12);
        due("join(11, 0)", x.join(11, 0), 2);
        due("round", round(x, 0), "11-0-11");
        due("both ends", x.isRope(0, 11) + x.isRope(11, 0), 2);
        due("parts", x.account(2), 11);
    }

    private static void p04BehindTheFirstPlace() {
        String[] due = {"3-1-2-1-0-6-0-5-4-5-0-1-3", "3-1-6-1-2-1-0-5-4-5-0-1-3", "3-1-2-6-2-1-0-5-4-5-0-1-3",
            "3-6-3-1-2-1-0-5-4-5-0-1-3", "3-1-2-1-0-5-4-6-4-5-0-1-3", "3-1-2-1-0-5-6-5-4-5-0-1-3"};
        for (int one = 0; one < 6; one++) {
            FerryRounds x = tree();
            x.bank(1);
            due("join(" + one + ", 6)", x.join(one, 6), 7);
            due("round", round(x, one), due[one]);
        }
    }

    private static void p04TheOtherIsTurned() {
        String[] due = {"6-0-5-4-5-0-1-3-1-2-1-0-6", "6-1-2-1-0-5-4-5-0-1-3-1-6", "6-2-1-0-5-4-5-0-1-3-1-2-6",
            "6-3-1-2-1-0-5-4-5-0-1-3-6", "6-4-5-0-1-3-1-2-1-0-5-4-6", "6-5-4-5-0-1-3-1-2-1-0-5-6"};
        for (int other = 0; other < 6; other++) {
            FerryRounds x = tree();
            x.bank(1);
            due("join(6, " + other + ")", x.join(6, other), 7);
            due("round", round(x, other), due[other]);
            due("no turn is counted", x.account(7), 0);
        }
    }

    private static void p04TheLongestRound() {
        FerryRounds x = alone(12);
        for (int bank = 0; bank < 10; bank += 2) {
            x.join(bank, bank + 1);
        }
        for (int bank = 2; bank < 10; bank += 2) {
            x.join(bank - 2, bank);
        }
        x.join(11, 10);
        due("join(9, 10)", x.join(9, 10), 12);
        due("round", round(x, 0), "0-2-4-6-8-9-10-11-10-9-8-6-7-6-4-5-4-2-3-2-0-1-0");
        due("places", x.account(4), 23);
        due("parts", x.account(2), 1);
        due("ropes", x.account(1), 11);
        due("isWell()", x.isWell(), 1);
    }

    // ---- promise 5

    private static void p05NoSuchBank() {
        dueNoSuchBankOfTwo("cut", (x, one, other) -> x.cut(one, other));
        for (int bank : new int[] {LOW, -1, 7, HIGH}) {
            dueUntouched("cut(" + bank + ", 0)", Checks::busy, x -> x.cut(bank, 0));
            dueUntouched("cut(0, " + bank + ")", Checks::busy, x -> x.cut(0, bank));
            dueUntouched("cut(" + bank + ", the same)", Checks::busy, x -> x.cut(bank, bank));
        }
    }

    private static void p05NoRope() {
        for (int one = 0; one < 12; one++) {
            for (int other = 0; other < 12; other++) {
                FerryRounds x = row();
                if (Math.abs(one - other) == 1) {
                    due("cut(" + one + ", " + other + ")", x.cut(one, other), Math.max(one, other));
                } else {
                    due("cut(" + one + ", " + other + ")", x.cut(one, other), REFUSED);
                    dueReasons(x, 4, one, NOTHING);
                }
            }
        }
        FerryRounds x = row();
        x.cut(4, 5);
        due("cut(5, 4), cut already", x.cut(5, 4), REFUSED);
        dueReasons(x, 4, 5, NOTHING);
        due("cut(4, 11), of two parts", x.cut(4, 11), REFUSED);
        dueReasons(x, 4, 4, NOTHING);
        dueUnchanged("cut(4, 0)", Checks::busy, y -> y.cut(4, 0));
        dueUnchanged("cut(0, 0)", Checks::busy, y -> y.cut(0, 0));
        dueUnchanged("cut(6, 2)", Checks::busy, y -> y.cut(6, 2));
    }

    private static void p05EachRope() {
        int[][] ropes = {{3, 1}, {1, 2}, {1, 0}, {0, 5}, {5, 4}};
        String[] left = {"3", "3-1-0-5-4-5-0-1-3", "3-1-2-1-3", "3-1-2-1-0-1-3", "3-1-2-1-0-5-0-1-3"};
        String[] taken = {"1-2-1-0-5-4-5-0-1", "2", "0-5-4-5-0", "5-4-5", "4"};
        for (int rope = 0; rope < ropes.length; rope++) {
            int upper = ropes[rope][0];
            int lower = ropes[rope][1];
            for (int way = 0; way < 2; way++) {
                FerryRounds x = tree();
                due("cut of the rope " + rope, way == 0 ? x.cut(upper, lower) : x.cut(lower, upper), lower);
                due("round above", round(x, upper), left[rope]);
                due("round below", round(x, lower), taken[rope]);
                due("a rope less", x.account(1), 4);
                due("a part more", x.account(2), 2);
                due("one cut", x.account(6), 1);
                due("isWell()", x.isWell(), 1);
            }
        }
    }

    private static void p05TheLongestRound() {
        for (int lower = 1; lower < 12; lower++) {
            FerryRounds x = star();
            due("cut(" + lower + ", 0)", x.cut(lower, 0), lower);
            due("places left", x.partOf(0, 1), 21);
            due("round below", round(x, lower), "" + lower);
            x = row();
            x.turn(11);
            due("cut(" + lower + ", next), turned", x.cut(lower, lower - 1), lower - 1);
            due("places left", x.partOf(11, 1), 2 * (12 - lower) - 1);
            due("places below", x.partOf(0, 1), 2 * lower - 1);
            due("isWell()", x.isWell(), 1);
        }
    }

    private static void p05LowerByTheFirstPlace() {
        FerryRounds x = river(1, 1, 1);
        x.join(2, 1);
        x.join(1, 0);
        due("cut(0, 1): the lower has the lesser number", x.cut(0, 1), 0);
        x.join(0, 1);
        due("cut(0, 1): joined the other way", x.cut(0, 1), 1);
    }

    // ---- promise 6

    private static void p06NoSuchBank() {
        dueNoSuchBank("turn", (x, bank) -> x.turn(bank));
        for (int bank : new int[] {LOW, -1, 7, HIGH}) {
            dueUntouched("turn(" + bank + ")", Checks::busy, x -> x.turn(bank));
        }
    }

    private static void p06TheRoot() {
        for (int bank = 0; bank < 12; bank++) {
            FerryRounds x = alone(12);
            due("turn(" + bank + ") of a bank alone", x.turn(bank), REFUSED);
            dueReasons(x, 7, bank, NOTHING);
            x = row();
            due("turn(" + bank + ")", x.turn(bank), bank == 0 ? REFUSED : 0);
            due("turn(" + bank + ") again", x.turn(bank), REFUSED);
            dueReasons(x, 7, bank, NOTHING);
            due("turns", x.account(7), bank == 0 ? 0 : 1);
        }
        dueUnchanged("turn(4)", Checks::busy, x -> x.turn(4));
    }

    private static void p06EachBank() {
        String[] due = {"0-5-4-5-0-1-3-1-2-1-0", "1-2-1-0-5-4-5-0-1-3-1", "2-1-0-5-4-5-0-1-3-1-2", "",
            "4-5-0-1-3-1-2-1-0-5-4", "5-4-5-0-1-3-1-2-1-0-5"};
        for (int bank : new int[] {0, 1, 2, 4, 5}) {
            FerryRounds x = tree();
            due("turn(" + bank + ")", x.turn(bank), 3);
            due("round", round(x, 3), due[bank]);
            due("places", x.partOf(bank, 1), 11);
        }
        FerryRounds x = river(1, 1);
        x.join(0, 1);
        due("turn(1), the shortest", x.turn(1), 0);
        due("round", round(x, 0), "1-0-1");
    }

    private static void p06TheLongestRound() {
        FerryRounds x = star();
        due("turn(1)", x.turn(1), 0);
        due("round", round(x, 0), "1-0-11-0-10-0-9-0-8-0-7-0-6-0-5-0-4-0-3-0-2-0-1");
        due("turn(0)", x.turn(0), 1);
        due("round", round(x, 0), "0-11-0-10-0-9-0-8-0-7-0-6-0-5-0-4-0-3-0-2-0-1-0");
        x = row();
        due("turn(11)", x.turn(11), 0);
        due("round", round(x, 0), "11-10-9-8-7-6-5-4-3-2-1-0-1-2-3-4-5-6-7-8-9-10-11");
    }

    // ---- promise 7

    private static void p07NoSuchBank() {
        dueNoSuchBank("rise", (x, bank) -> x.rise(bank, 1));
        for (int bank : new int[] {LOW, -1, 7, HIGH}) {
            dueUntouched("rise(" + bank + ", 1)", Checks::busy, x -> x.rise(bank, 1));
        }
    }

    private static void p07ByHowMuch() {
        for (int by : new int[] {-99, -98, -1, 1, 98, 99}) {
            FerryRounds x = river(by < 0 ? 99 : 0);
            due("rise(0, " + by + ")", x.rise(0, by), 1);
            due("its weight", x.bankOf(0, 0), by < 0 ? 99 + by : by);
        }
        for (int by : new int[] {LOW, LOW + 1, -101, -100, 100, 101, HIGH - 1, HIGH}) {
            due("rise(0, " + by + ")", river(50).rise(0, by), BAD);
            dueUntouched("rise(0, " + by + ")", Checks::busy, x -> x.rise(0, by));
        }
    }

    private static void p07StayFrom0To99() {
        for (int weight = 0; weight <= 99; weight++) {
            FerryRounds x = river(weight, 50);
            x.join(1, 0);
            due("rise(1, 99) of " + weight, x.rise(1, 99), weight < 99 ? 2 : 1);
            due("its weight", x.bankOf(0, 0), 99);
            x.weigh(0, weight);
            due("rise(0, -99) of " + weight, x.rise(0, -99), weight > 0 ? 2 : 1);
            due("its weight", x.bankOf(0, 0), 0);
        }
        FerryRounds x = river(98, 97, 96);
        x.join(0, 1);
        x.join(0, 2);
        due("rise(0, 1)", x.rise(0, 1), 3);
        due("rise(0, 1): the one at 99 stays", x.rise(0, 1), 2);
        due("rise(0, 1): one is left", x.rise(0, 1), 1);
        due("rise(0, 1): none is left", x.rise(0, 1), REFUSED);
        due("all at 99", x.partOf(0, 2), 297);
    }

    private static void p07NoWeightWouldChange() {
        for (int banks = 1; banks <= 12; banks++) {
            FerryRounds x = alone(12);
            for (int bank = 1; bank < banks; bank++) {
                x.join(0, bank);
            }
            due("rise(0, -1) of " + banks, x.rise(banks - 1, -1), REFUSED);
            dueReasons(x, 6, banks, NOTHING);
            due("rise(0, 99) of " + banks, x.rise(0, 99), banks);
            due("rise(0, 1) of " + banks, x.rise(0, 1), REFUSED);
            dueReasons(x, 6, banks, NOTHING);
            due("rise(0, 0) of " + banks, x.rise(0, 0), REFUSED);
            dueReasons(x, 6, banks, NOTHING);
        }
        dueUnchanged("rise(5, 0)", Checks::busy, x -> x.rise(5, 0));
    }

    private static void p07OnlyItsPart() {
        FerryRounds x = river(10, 20, 30, 40);
        x.join(3, 0);
        due("rise(0, 5)", x.rise(0, 5), 2);
        due("weights", x.bankOf(0, 0) + 100 * x.bankOf(3, 0), 15 + 100 * 45);
        due("rise(1, -5)", x.rise(1, -5), 1);
        due("weights", x.bankOf(1, 0) + 100 * x.bankOf(2, 0), 15 + 100 * 30);
    }

    private static void p07ErrorsInTheirOrder() {
        due("rise(12, 100) of 12", row().rise(12, 100), NONE);
        due("rise(-1, -100) of 12", row().rise(-1, -100), NONE);
        due("rise(low, low) of 12", row().rise(LOW, LOW), NONE);
        FerryRounds x = river(99);
        due("rise(0, 100) where none would change", x.rise(0, 100), BAD);
        due("no reason", x.refusal(0), NOTHING);
    }

    public static void main(String[] args) {
        run("what it is: 512 calls", EdgeChangeTests::howManyCalls);
        run("promise 1: all accounts are 0", EdgeChangeTests::p01Accounts);
        run("promise 1: what is asked without banks", EdgeChangeTests::p01Questions);
        run("promise 1: objects are apart", EdgeChangeTests::p01Apart);
        run("promise 2: weights from 0 to 99", EdgeChangeTests::p02Weights);
        run("promise 2: at most 12 banks", EdgeChangeTests::p02Twelve);
        run("promise 2: BAD ahead of REFUSED", EdgeChangeTests::p02BadComesFirst);
        run("promise 2: a part of its own", EdgeChangeTests::p02APartOfItsOwn);
        run("promise 3: no such bank", EdgeChangeTests::p03NoSuchBank);
        run("promise 3: weights from 0 to 99", EdgeChangeTests::p03Weights);
        run("promise 3: the reason 5, with the weight", EdgeChangeTests::p03SoAlready);
        run("promise 3: NONE ahead of BAD", EdgeChangeTests::p03NoneComesFirst);
        run("promise 4: no such bank, for either", EdgeChangeTests::p04NoSuchBank);
        run("promise 4: the reason 2, ahead of 3", EdgeChangeTests::p04BothAreOne);
        run("promise 4: the reason 3, with the root", EdgeChangeTests::p04BothOfOnePart);
        run("promise 4: two banks alone", EdgeChangeTests::p04BanksAlone);
        run("promise 4: put in behind the first place", EdgeChangeTests::p04BehindTheFirstPlace);
        run("promise 4: the other one's round is turned", EdgeChangeTests::p04TheOtherIsTurned);
        run("promise 4: the longest round", EdgeChangeTests::p04TheLongestRound);
        run("promise 5: no such bank, for either", EdgeChangeTests::p05NoSuchBank);
        run("promise 5: the reason 4, with the first bank told", EdgeChangeTests::p05NoRope);
        run("promise 5: each rope of a part", EdgeChangeTests::p05EachRope);
        run("promise 5: the longest round", EdgeChangeTests::p05TheLongestRound);
        run("promise 5: lower by the first place", EdgeChangeTests::p05LowerByTheFirstPlace);
        run("promise 6: no such bank", EdgeChangeTests::p06NoSuchBank);
        run("promise 6: the reason 7, with the bank", EdgeChangeTests::p06TheRoot);
        run("promise 6: each bank of a part", EdgeChangeTests::p06EachBank);
        run("promise 6: the longest round", EdgeChangeTests::p06TheLongestRound);
        run("promise 7: no such bank", EdgeChangeTests::p07NoSuchBank);
        run("promise 7: from -99 to 99", EdgeChangeTests::p07ByHowMuch);
        run("promise 7: weights stay from 0 to 99", EdgeChangeTests::p07StayFrom0To99);
        run("promise 7: the reason 6, with the banks", EdgeChangeTests::p07NoWeightWouldChange);
        run("promise 7: only its part", EdgeChangeTests::p07OnlyItsPart);
        run("promise 7: NONE, BAD, REFUSED in their order", EdgeChangeTests::p07ErrorsInTheirOrder);
        end();
    }
}
