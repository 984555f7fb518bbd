/** The edges that the document names in promises 8 to 21: what is asked about rounds, banks and parts. */
public final class EdgeQuestionTests extends Checks {
    private static final int[] NO_WHATS = {LOW, LOW + 1, -2, -1};
    private static final int[] NO_PLACES = {LOW, LOW + 1, -3, -2};

    // Each question has an object of its own: no object has more calls than are promised.
    private static void dueOfPairs(String name, Made made, Two call, Two want) {
        for (int one = 0; one < 12; one++) {
            for (int other = 0; other < 12; other++) {
                due(name + "(" + one + ", " + other + ")", call.of(made.get(), one, other),
                        want.of(null, one, other));
            }
        }
    }

    private static void dueOfBanks(String name, Made made, One call, One want) {
        for (int bank = 0; bank < 12; bank++) {
            due(name + "(" + bank + ")", call.of(made.get(), bank), want.of(null, bank));
        }
    }

    // 12 banks with the weight 99 each, in a row.
    private static FerryRounds heavy() {
        FerryRounds x = row();
        x.rise(0, 99);
        return x;
    }

    private static FerryRounds turnedRow() {
        FerryRounds x = row();
        x.turn(11);
        return x;
    }

    private static void nothingChanges() {
        Made[] rivers = {FerryRounds::new, () -> alone(12), Checks::row, Checks::busy};
        for (Made made : rivers) {
            for (int bank : new int[] {LOW, -1, 0, 1, 5, 6, 11, 12, HIGH}) {
                dueUntouched("questions about " + bank, made, x -> {
                    for (int other : new int[] {LOW, -1, 0, 4, 6, 11, 12, HIGH}) {
                        x.areJoined(bank, other);
                        x.areJoinedAgain(bank, other);
                        x.bankOf(bank, other);
                        x.inRound(bank, other);
                        x.partOf(bank, other);
                        x.isRope(bank, other);
                        x.isBelow(bank, other);
                        x.meet(bank, other);
                        x.way(bank, other, -1);
                        x.way(other, bank, 1);
                        x.would(bank, other);
                        x.wouldDiffer(bank, other);
                    }
                    x.belowAgain(bank);
                    x.middle(bank);
                    x.ranked(bank);
                    x.sign(bank);
                    x.refusal(bank);
                    x.account(bank);
                    x.isWell();
                    x.mean();
                });
            }
        }
    }

    // ---- promises 8 and 9

    private static void p08() {
        dueOfPairs("areJoined", Checks::row, (x, one, other) -> x.areJoined(one, other), (x, one, other) -> 1);
        dueOfPairs("areJoined, star", Checks::star, (x, one, other) -> x.areJoined(one, other), (x, one, other) -> 1);
        dueOfPairs("areJoined, alone", () -> alone(12), (x, one, other) -> x.areJoined(one, other),
                (x, one, other) -> one == other ? 1 : 0);
        due("areJoined(0, 0) of one bank", alone(1).areJoined(0, 0), 1);
    }

    private static void p09() {
        dueOfPairs("areJoinedAgain", Checks::row, (x, one, other) -> x.areJoinedAgain(one, other),
                (x, one, other) -> 1);
        dueOfPairs("areJoinedAgain, star", Checks::star, (x, one, other) -> x.areJoinedAgain(one, other),
                (x, one, other) -> 1);
        dueOfPairs("areJoinedAgain, alone", () -> alone(12), (x, one, other) -> x.areJoinedAgain(one, other),
                (x, one, other) -> one == other ? 1 : 0);
        due("areJoinedAgain(0, 0) of one bank", alone(1).areJoinedAgain(0, 0), 1);
    }

    private static void p08p09AfterACut() {
        for (int rope = 0; rope < 11; rope++) {
            int cut = rope;
            Made made = after(Checks::row, x -> x.cut(cut, cut + 1));
            dueOfPairs("areJoined, cut " + cut, made, (x, one, other) -> x.areJoined(one, other),
                    (x, one, other) -> one <= cut == other <= cut ? 1 : 0);
            dueOfPairs("areJoinedAgain, cut " + cut, made, (x, one, other) -> x.areJoinedAgain(one, other),
                    (x, one, other) -> one <= cut == other <= cut ? 1 : 0);
        }
    }

    // ---- promise 10

    private static void p10NoSuchWhat() {
        for (int what : NO_WHATS) {
            due("bankOf(0, " + what + ")", row().bankOf(0, what), BAD);
        }
        for (int what : new int[] {9, 10, 11, 99, HIGH - 1, HIGH}) {
            due("bankOf(11, " + what + ")", row().bankOf(11, what), BAD);
            due("bankOf(12, " + what + ")", row().bankOf(12, what), NONE);
            due("bankOf(-1, " + what + ")", row().bankOf(-1, what), NONE);
        }
        due("bankOf(low, low)", row().bankOf(LOW, LOW), NONE);
        due("bankOf(high, high)", row().bankOf(HIGH, HIGH), NONE);
    }

    private static void p10ABankAlone() {
        int[] due = {0, 1, 0, 0, 0, 0, NOTHING, 1, 0};
        for (int what = 0; what <= 8; what++) {
            due("bankOf(1, " + what + ")", alone(2).bankOf(1, what), due[what]);
        }
        due("bankOf(0, 8) of 99", river(99).bankOf(0, 8), 99);
        due("bankOf(0, 0) of 99", river(99).bankOf(0, 0), 99);
    }

    private static void p10TheLongestRound() {
        One[] due = {(x, bank) -> bank + 1, (x, bank) -> 0, (x, bank) -> bank, (x, bank) -> bank,
            (x, bank) -> 22 - bank, (x, bank) -> bank == 0 || bank == 11 ? 1 : 2,
            (x, bank) -> bank == 0 ? NOTHING : bank - 1, (x, bank) -> 12 - bank,
            (x, bank) -> 78 - bank * (bank + 1) / 2};
        for (int what = 0; what <= 8; what++) {
            int asked = what;
            dueOfBanks("bankOf " + what, Checks::row, (x, bank) -> x.bankOf(bank, asked), due[what]);
        }
    }

    private static void p10ManyRopes() {
        One[] due = {(x, bank) -> bank + 1, (x, bank) -> 0, (x, bank) -> bank == 0 ? 0 : 1,
            (x, bank) -> bank == 0 ? 0 : 2 * (12 - bank) - 1, (x, bank) -> bank == 0 ? 22 : 2 * (12 - bank) - 1,
            (x, bank) -> bank == 0 ? 11 : 1, (x, bank) -> bank == 0 ? NOTHING : 0,
            (x, bank) -> bank == 0 ? 12 : 1, (x, bank) -> bank == 0 ? 78 : bank + 1};
        for (int what = 0; what <= 8; what++) {
            int asked = what;
            dueOfBanks("bankOf " + what, Checks::star, (x, bank) -> x.bankOf(bank, asked), due[what]);
        }
    }

    private static void p10TheGreatest() {
        due("the weights below the root", heavy().bankOf(0, 8), 12 * 99);
        due("the weights below the last one", heavy().bankOf(11, 8), 99);
        due("the depth of the first one, turned", turnedRow().bankOf(0, 2), 11);
        due("above the root that was", turnedRow().bankOf(0, 6), 1);
        due("above the root", turnedRow().bankOf(11, 6), NOTHING);
    }

    // ---- promise 11

    private static void p11() {
        due("belowAgain of a bank alone", river(0, 99).belowAgain(1), 99);
        due("belowAgain of a bank without weight", alone(1).belowAgain(0), 0);
        dueOfBanks("belowAgain", Checks::row, (x, bank) -> x.belowAgain(bank),
                (x, bank) -> 78 - bank * (bank + 1) / 2);
        dueOfBanks("belowAgain, turned", EdgeQuestionTests::turnedRow, (x, bank) -> x.belowAgain(bank),
                (x, bank) -> (bank + 1) * (bank + 2) / 2);
        dueOfBanks("belowAgain, star", Checks::star, (x, bank) -> x.belowAgain(bank),
                (x, bank) -> bank == 0 ? 78 : bank + 1);
        dueOfBanks("belowAgain, heavy", EdgeQuestionTests::heavy, (x, bank) -> x.belowAgain(bank),
                (x, bank) -> 99 * (12 - bank));
    }

    // ---- promise 12

    private static void p12() {
        for (int place : NO_PLACES) {
            due("inRound(0, " + place + ")", row().inRound(0, place), NONE);
            due("inRound(0, " + place + ") alone", alone(1).inRound(0, place), NONE);
        }
        due("inRound(0, -1)", row().inRound(0, -1), NONE);
        due("inRound(11, 0)", row().inRound(11, 0), 0);
        due("inRound(0, 11)", row().inRound(0, 11), 11);
        due("inRound(5, 22)", row().inRound(5, 22), 0);
        due("inRound(5, 23)", row().inRound(5, 23), NONE);
        due("inRound(5, 24)", row().inRound(5, 24), NONE);
        due("inRound(5, high)", row().inRound(5, HIGH), NONE);
        due("inRound(11, 0) alone", alone(12).inRound(11, 0), 11);
        due("inRound(11, 1) alone", alone(12).inRound(11, 1), NONE);
        due("inRound(11, -1) alone", alone(12).inRound(11, -1), NONE);
        FerryRounds x = row();
        x.cut(1, 0);
        due("inRound(0, 1), cut", x.inRound(0, 1), NONE);
        due("inRound(1, 20), cut", x.inRound(1, 20), 1);
        due("inRound(1, 21), cut", x.inRound(1, 21), NONE);
        due("inRound(12, -1)", row().inRound(12, -1), NONE);
    }

    // ---- promise 13

    private static void p13NoSuchWhat() {
        for (int what : NO_WHATS) {
            due("partOf(0, " + what + ")", row().partOf(0, what), BAD);
        }
        for (int what : new int[] {5, 6, 8, HIGH - 1, HIGH}) {
            due("partOf(11, " + what + ")", row().partOf(11, what), BAD);
            due("partOf(12, " + what + ")", row().partOf(12, what), NONE);
            due("partOf(-1, " + what + ")", row().partOf(-1, what), NONE);
        }
        due("partOf(low, low)", row().partOf(LOW, LOW), NONE);
    }

    private static void p13LeastAndGreatest() {
        int[] alone = {1, 1, 0, 0, 11};
        int[] row = {12, 23, 78, 11, 11};
        int[] star = {12, 23, 78, 1, 11};
        int[] heavy = {12, 23, 1188, 11, 0};
        for (int what = 0; what <= 4; what++) {
            due("partOf(11, " + what + ") alone", alone(12).partOf(11, what), alone[what]);
            due("partOf(5, " + what + ") of a row", row().partOf(5, what), row[what]);
            due("partOf(5, " + what + ") of a star", star().partOf(5, what), star[what]);
            due("partOf(5, " + what + ") of a heavy row", heavy().partOf(5, what), heavy[what]);
        }
        due("the depth, turned to the middle", after(Checks::row, x -> x.turn(5)).get().partOf(0, 3), 6);
    }

    private static void p13TheFirstInTheRound() {
        FerryRounds x = alone(12);
        for (int bank = 10; bank >= 0; bank--) {
            x.join(11, bank);
        }
        due("the heaviest of 12 alike, the root", x.partOf(0, 4), 11);
        x.weigh(11, 0);
        for (int bank = 0; bank < 11; bank++) {
            x.weigh(bank, 50);
            due("the heaviest, " + bank, x.partOf(11, 4), 0);
        }
        x.weigh(10, 51);
        due("the heaviest, at the end of the round", x.partOf(0, 4), 10);
        x = river(7, 9, 9);
        x.join(0, 1);
        x.join(0, 2);
        due("of several the first in the round, not the lowest", x.partOf(0, 4), 2);
    }

    // ---- promise 14

    private static void p14() {
        dueOfPairs("isRope", Checks::row, (x, one, other) -> x.isRope(one, other),
                (x, one, other) -> Math.abs(one - other) == 1 ? 1 : 0);
        dueOfPairs("isRope, star", Checks::star, (x, one, other) -> x.isRope(one, other),
                (x, one, other) -> one != other && (one == 0 || other == 0) ? 1 : 0);
        dueOfPairs("isRope, alone", () -> alone(12), (x, one, other) -> x.isRope(one, other), (x, one, other) -> 0);
    }

    // ---- promise 15

    private static void p15() {
        dueOfPairs("isBelow", Checks::row, (x, one, other) -> x.isBelow(one, other),
                (x, one, other) -> one >= other ? 1 : 0);
        dueOfPairs("isBelow, turned", EdgeQuestionTests::turnedRow, (x, one, other) -> x.isBelow(one, other),
                (x, one, other) -> one <= other ? 1 : 0);
        dueOfPairs("isBelow, star", Checks::star, (x, one, other) -> x.isBelow(one, other),
                (x, one, other) -> one == other || other == 0 ? 1 : 0);
        dueOfPairs("isBelow, alone", () -> alone(12), (x, one, other) -> x.isBelow(one, other),
                (x, one, other) -> one == other ? 1 : 0);
    }

    // ---- promise 16

    private static void p16() {
        dueOfPairs("meet", Checks::row, (x, one, other) -> x.meet(one, other),
                (x, one, other) -> Math.min(one, other));
        dueOfPairs("meet, turned", EdgeQuestionTests::turnedRow, (x, one, other) -> x.meet(one, other),
                (x, one, other) -> Math.max(one, other));
        dueOfPairs("meet, turned to 6", after(Checks::row, x -> x.turn(6)), (x, one, other) -> x.meet(one, other),
                (x, one, other) -> one <= 6 && other <= 6 ? Math.max(one, other)
                        : one >= 6 && other >= 6 ? Math.min(one, other) : 6);
        dueOfPairs("meet, star", Checks::star, (x, one, other) -> x.meet(one, other),
                (x, one, other) -> one == other ? one : 0);
        dueOfPairs("meet, alone", () -> alone(12), (x, one, other) -> x.meet(one, other),
                (x, one, other) -> one == other ? one : NOTHING);
    }

    // ---- promise 17

    private static void p17NoSuchBank() {
        for (int place : new int[] {LOW, -2, -1, 0, 1, HIGH}) {
            for (int bank : new int[] {LOW, -1, 12, 13, HIGH}) {
                due("way(" + bank + ", 0, " + place + ")", alone(12).way(bank, 0, place), NONE);
                due("way(0, " + bank + ", " + place + ")", alone(12).way(0, bank, place), NONE);
                due("way(" + bank + ", the same, " + place + ")", row().way(bank, bank, place), NONE);
            }
            due("way(0, 0, " + place + ") without banks", river().way(0, 0, place), NONE);
        }
    }

    private static void p17TwoParts() {
        for (int place : new int[] {LOW, -2, -1, 0, 1, 11, 12, HIGH}) {
            due("way(0, 11, " + place + ")", alone(12).way(0, 11, place), NOTHING);
            due("way(11, 0, " + place + ")", alone(12).way(11, 0, place), NOTHING);
        }
    }

    private static void p17NoSuchPlace() {
        for (int place : NO_PLACES) {
            due("way(0, 11, " + place + ")", row().way(0, 11, place), NONE);
            due("way(5, 5, " + place + ")", row().way(5, 5, place), NONE);
        }
        for (int place : new int[] {12, 13, 22, 23, HIGH - 1, HIGH}) {
            due("way(0, 11, " + place + ")", row().way(0, 11, place), NONE);
            due("way(11, 0, " + place + ")", row().way(11, 0, place), NONE);
        }
        due("way(5, 6, 2)", row().way(5, 6, 2), NONE);
        due("way(1, 2, 3)", star().way(1, 2, 3), NONE);
    }

    private static void p17ToItself() {
        for (int bank = 0; bank < 12; bank++) {
            for (Made made : new Made[] {Checks::row, Checks::star, () -> alone(12)}) {
                due("way(" + bank + ", itself, -1)", made.get().way(bank, bank, -1), 0);
                due("way(" + bank + ", itself, 0)", made.get().way(bank, bank, 0), bank);
                due("way(" + bank + ", itself, 1)", made.get().way(bank, bank, 1), NONE);
            }
        }
    }

    private static void p17EachPlace() {
        for (int root = 0; root < 12; root++) {
            int turned = root;
            Made made = after(Checks::row, x -> x.turn(turned));
            dueOfPairs("way, ropes", made, (x, one, other) -> x.way(one, other, -1),
                    (x, one, other) -> Math.abs(one - other));
            for (int place = 0; place <= 11; place++) {
                int asked = place;
                dueOfPairs("way, place " + place, made, (x, one, other) -> x.way(one, other, asked),
                        (x, one, other) -> asked > Math.abs(one - other) ? NONE
                                : one < other ? one + asked : one - asked);
            }
        }
        dueOfPairs("way, star", Checks::star, (x, one, other) -> x.way(one, other, 1),
                (x, one, other) -> one == other ? NONE : one == 0 ? other : 0);
    }

    // ---- promise 18

    private static void p18() {
        dueOfPairs("would, of one part", Checks::row, (x, one, other) -> x.would(one, other),
                (x, one, other) -> NOTHING);
        dueOfPairs("would, alone", () -> alone(12), (x, one, other) -> x.would(one, other),
                (x, one, other) -> one == other ? NOTHING : one);
        Made two = after(Checks::row, x -> {
            x.turn(2);
            x.cut(5, 6);
            x.turn(9);
        });
        dueOfPairs("would, two parts", two, (x, one, other) -> x.would(one, other),
                (x, one, other) -> one <= 5 == other <= 5 ? NOTHING : one <= 5 ? 2 : 9);
        for (int one = 0; one < 6; one++) {
            for (int other = 6; other < 12; other++) {
                FerryRounds x = two.get();
                int would = x.would(one, other);
                due("join(" + one + ", " + other + ")", x.join(one, other), 12);
                due("the root, as it was told", x.bankOf(other, 1), would);
            }
        }
    }

    private static void p18WithoutAnyTurning() {
        for (Made made : new Made[] {() -> alone(12), Checks::busy}) {
            dueUntouched("would", made, x -> {
                x.would(0, 6);
                x.would(6, 5);
                x.wouldDiffer(0, 1);
                x.wouldDiffer(5, 4);
            });
        }
    }

    // ---- promise 19

    private static void p19() {
        dueOfPairs("wouldDiffer, alone", () -> alone(12), (x, one, other) -> x.wouldDiffer(one, other),
                (x, one, other) -> NOTHING);
        dueOfPairs("wouldDiffer", Checks::row, (x, one, other) -> x.wouldDiffer(one, other),
                (x, one, other) -> Math.abs(one - other) != 1 ? NOTHING
                        : Math.abs(78 - Math.max(one, other) * (Math.max(one, other) + 1)));
        dueOfPairs("wouldDiffer, turned", EdgeQuestionTests::turnedRow, (x, one, other) -> x.wouldDiffer(one, other),
                (x, one, other) -> Math.abs(one - other) != 1 ? NOTHING
                        : Math.abs(78 - Math.max(one, other) * (Math.max(one, other) + 1)));
        due("wouldDiffer(5, 6), alike", heavy().wouldDiffer(5, 6), 0);
        FerryRounds x = heavy();
        x.weigh(0, 0);
        due("wouldDiffer(1, 0), the greatest", x.wouldDiffer(1, 0), 1089);
        x.turn(11);
        due("wouldDiffer(1, 0), the greatest, turned", x.wouldDiffer(1, 0), 1089);
    }

    // ---- promise 20

    private static void p20() {
        dueOfBanks("middle, alone", () -> alone(12), (x, bank) -> x.middle(bank), (x, bank) -> bank);
        dueOfBanks("middle, row", Checks::row, (x, bank) -> x.middle(bank), (x, bank) -> 8);
        dueOfBanks("middle, turned", EdgeQuestionTests::turnedRow, (x, bank) -> x.middle(bank), (x, bank) -> 8);
        dueOfBanks("middle, star", Checks::star, (x, bank) -> x.middle(bank), (x, bank) -> 0);
        dueOfBanks("middle, two alike", EdgeQuestionTests::heavy, (x, bank) -> x.middle(bank), (x, bank) -> 5);
    }

    private static void p20TheLowestOfSeveral() {
        FerryRounds x = alone(12);
        for (int bank = 11; bank > 0; bank--) {
            x.join(bank, bank - 1);
        }
        due("middle(11), no weights", x.middle(11), 0);
        x.weigh(0, 10);
        due("middle(11), one weight at the lowest", x.middle(11), 0);
        x.weigh(0, 0);
        x.weigh(11, 10);
        due("middle(0), one weight at the highest", x.middle(0), 11);
        x.weigh(0, 10);
        due("middle(5), all between are alike", x.middle(5), 0);
        x = river(5, 5);
        x.join(1, 0);
        due("middle(1) of two alike", x.middle(1), 0);
        x.weigh(1, 6);
        due("middle(0), the heavier one", x.middle(0), 1);
    }

    // ---- promise 21

    private static void p21Places() {
        for (int place : new int[] {LOW, LOW + 1, -3, -2, -1, HIGH - 1, HIGH}) {
            for (Made made : new Made[] {FerryRounds::new, () -> alone(1), () -> alone(12), Checks::row}) {
                due("ranked(" + place + ")", made.get().ranked(place), NONE);
            }
        }
        due("ranked(0) without banks", river().ranked(0), NONE);
        due("ranked(0) of one part", row().ranked(0), 0);
        due("ranked(1) of one part", row().ranked(1), NONE);
        for (int place = 0; place < 12; place++) {
            due("ranked(" + place + ") of 12", alone(12).ranked(place), place);
        }
        due("ranked(12) of 12", alone(12).ranked(12), NONE);
        due("ranked(13) of 12", alone(12).ranked(13), NONE);
    }

    private static void p21Order() {
        FerryRounds x = river(1, 2, 3, 4, 5, 6, 7, 8, 9, 10, 11, 12);
        for (int place = 0; place < 12; place++) {
            due("ranked(" + place + ") by weight", x.ranked(place), 11 - place);
        }
        x = river(10, 10, 5, 5, 3, 3, 4, 11);
        x.join(3, 2);
        x.join(6, 5);
        x.join(5, 4);
        int[] due = {7, 6, 3, 0, 1, NONE};
        for (int place = 0; place < due.length; place++) {
            due("ranked(" + place + ")", x.ranked(place), due[place]);
        }
        x.turn(4);
        due("ranked(1): the part is told by its root", x.ranked(1), 4);
        x.weigh(7, 10);
        due("ranked(0): with more banks", x.ranked(0), 4);
        due("ranked(4): the lower root", x.ranked(4), 7);
        x = river(5, 5, 5, 5);
        x.join(3, 0);
        x.join(1, 2);
        due("ranked(0): the lower root, not the lowest bank", x.ranked(0), 1);
        due("ranked(1)", x.ranked(1), 3);
    }

    // Each name begins with its promise.
    private static void noSuchBank() {
        run("promise 8: no such bank, for either", () -> dueNoSuchBankOfTwo("areJoined", FerryRounds::areJoined));
        run("promise 9: no such bank, for either",
                () -> dueNoSuchBankOfTwo("areJoinedAgain", FerryRounds::areJoinedAgain));
        run("promise 10: no such bank", () -> dueNoSuchBank("bankOf", (x, bank) -> x.bankOf(bank, 0)));
        run("promise 11: no such bank", () -> dueNoSuchBank("belowAgain", FerryRounds::belowAgain));
        run("promise 12: no such bank", () -> dueNoSuchBank("inRound", (x, bank) -> x.inRound(bank, 0)));
        run("promise 13: no such bank", () -> dueNoSuchBank("partOf", (x, bank) -> x.partOf(bank, 4)));
        run("promise 14: no such bank, for either", () -> dueNoSuchBankOfTwo("isRope", FerryRounds::isRope));
        run("promise 15: no such bank, for either", () -> dueNoSuchBankOfTwo("isBelow", FerryRounds::isBelow));
        run("promise 16: no such bank, for either", () -> dueNoSuchBankOfTwo("meet", FerryRounds::meet));
        run("promise 17: no such bank, for either",
                () -> dueNoSuchBankOfTwo("way", (x, one, other) -> x.way(one, other, -1)));
        run("promise 18: no such bank, for either", () -> dueNoSuchBankOfTwo("would", FerryRounds::would));
        run("promise 19: no such bank, for either",
                () -> dueNoSuchBankOfTwo("wouldDiffer", FerryRounds::wouldDiffer));
        run("promise 20: no such bank", () -> dueNoSuchBank("middle", FerryRounds::middle));
    }

    public static void main(String[] args) {
        noSuchBank();
        run("questions change nothing", EdgeQuestionTests::nothingChanges);
        run("promise 8: alone, and in one part", EdgeQuestionTests::p08);
        run("promise 9: alone, and in one part", EdgeQuestionTests::p09);
        run("promises 8 and 9: after a cut", EdgeQuestionTests::p08p09AfterACut);
        run("promise 10: no such what, and NONE ahead of BAD", EdgeQuestionTests::p10NoSuchWhat);
        run("promise 10: a bank alone", EdgeQuestionTests::p10ABankAlone);
        run("promise 10: the longest round", EdgeQuestionTests::p10TheLongestRound);
        run("promise 10: 11 ropes", EdgeQuestionTests::p10ManyRopes);
        run("promise 10: the greatest numbers", EdgeQuestionTests::p10TheGreatest);
        run("promise 11: alone, and 12 banks", EdgeQuestionTests::p11);
        run("promise 12: no such place", EdgeQuestionTests::p12);
        run("promise 13: no such what, and NONE ahead of BAD", EdgeQuestionTests::p13NoSuchWhat);
        run("promise 13: alone, and 12 banks", EdgeQuestionTests::p13LeastAndGreatest);
        run("promise 13: the first in the round", EdgeQuestionTests::p13TheFirstInTheRound);
        run("promise 14: each two banks", EdgeQuestionTests::p14);
        run("promise 15: each two banks", EdgeQuestionTests::p15);
        run("promise 16: each two banks", EdgeQuestionTests::p16);
        run("promise 17: NONE ahead of NOTHING", EdgeQuestionTests::p17NoSuchBank);
        run("promise 17: NOTHING ahead of no such place", EdgeQuestionTests::p17TwoParts);
        run("promise 17: no such place", EdgeQuestionTests::p17NoSuchPlace);
        run("promise 17: to itself no ropes", EdgeQuestionTests::p17ToItself);
        run("promise 17: each place of each way", EdgeQuestionTests::p17EachPlace);
        run("promise 18: each two banks", EdgeQuestionTests::p18);
        run("promises 18 and 19: without any turning", EdgeQuestionTests::p18WithoutAnyTurning);
        run("promise 19: each two banks, 0 and the greatest", EdgeQuestionTests::p19);
        run("promise 20: alone, and 12 banks", EdgeQuestionTests::p20);
        run("promise 20: of several the lowest", EdgeQuestionTests::p20TheLowestOfSeveral);
        run("promise 21: places", EdgeQuestionTests::p21Places);
        run("promise 21: the order", EdgeQuestionTests::p21Order);
        end();
    }
}
