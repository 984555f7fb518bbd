import java.util.function.IntSupplier;

/** A test or more for each promise of the document: ordinary inputs, edges and wrong inputs. */
public final class PromiseTests extends Checks {

    // ---- the constants, and promise 1

    private static void constants() {
        due("NONE", FerryRounds.NONE, -1);
        due("BAD", FerryRounds.BAD, -2);
        due("REFUSED", FerryRounds.REFUSED, -3);
        due("NOTHING", FerryRounds.NOTHING, -4);
    }

    private static void p01NewObject() {
        FerryRounds x = new FerryRounds();
        for (int what = 0; what <= 10; what++) {
            due("account(" + what + ")", x.account(what), 0);
        }
        due("refusal(0)", x.refusal(0), NOTHING);
        due("sign(0)", x.sign(0), NONE);
        due("undo()", x.undo(), NOTHING);
        due("restore()", x.restore(), NOTHING);
        due("isWell()", x.isWell(), 1);
        due("mean()", x.mean(), NOTHING);
        due("describe(0)", x.describe(0), NONE);
        FerryRounds other = river(1, 2);
        due("account(0) of another one", other.account(0), 2);
        due("account(0)", x.account(0), 0);
    }

    // ---- promises 2 to 7

    private static void p02Bank() {
        FerryRounds x = new FerryRounds();
        for (int bank = 0; bank < 12; bank++) {
            due("bank(" + bank * 9 + ")", x.bank(bank * 9), bank);
            due("its weight", x.bankOf(bank, 0), bank * 9);
            due("its root", x.bankOf(bank, 1), bank);
            due("its round", round(x, bank), "" + bank);
        }
        due("account(10)", x.account(10), 8);
        due("bank(5), a 13th", x.bank(5), REFUSED);
        dueReasons(x, 1, 12, NOTHING);
        due("bank(100) before the reason", x.bank(100), BAD);
        due("bank(-1) before the reason", x.bank(-1), BAD);
        due("account(0)", x.account(0), 12);
    }

    private static void p02BankEdges() {
        FerryRounds x = new FerryRounds();
        due("bank(-1)", x.bank(-1), BAD);
        due("bank(100)", x.bank(100), BAD);
        due("bank(low)", x.bank(LOW), BAD);
        due("bank(high)", x.bank(HIGH), BAD);
        due("account(0)", x.account(0), 0);
        due("account(10)", x.account(10), 0);
        due("bank(0)", x.bank(0), 0);
        due("bank(99)", x.bank(99), 1);
        due("account(3)", x.account(3), 99);
    }

    private static void p03Weigh() {
        FerryRounds x = river(5, 0, 99);
        due("weigh(0, 7)", x.weigh(0, 7), 5);
        due("bankOf(0, 0)", x.bankOf(0, 0), 7);
        due("weigh(1, 99)", x.weigh(1, 99), 0);
        due("weigh(2, 0)", x.weigh(2, 0), 99);
        due("account(3)", x.account(3), 106);
        due("weigh(0, 7) again", x.weigh(0, 7), REFUSED);
        dueReasons(x, 5, 7, NOTHING);
        due("weigh(3, 7)", x.weigh(3, 7), NONE);
        due("weigh(-1, 100)", x.weigh(-1, 100), NONE);
        due("weigh(0, 100)", x.weigh(0, 100), BAD);
        due("weigh(0, -1)", x.weigh(0, -1), BAD);
        due("weigh(0, low)", x.weigh(0, LOW), BAD);
        due("weigh(high, 0)", x.weigh(HIGH, 0), NONE);
        due("bankOf(0, 0) still", x.bankOf(0, 0), 7);
        due("account(10)", x.account(10), 6);
    }

    private static void p04Join() {
        FerryRounds x = river(1, 2, 3, 4, 5);
        due("join(0, 1)", x.join(0, 1), 2);
        due("round", round(x, 1), "0-1-0");
        due("join(0, 2)", x.join(0, 2), 3);
        due("round: behind the first place", round(x, 0), "0-2-0-1-0");
        due("join(3, 4)", x.join(3, 4), 2);
        due("join(1, 4): the other round is turned", x.join(1, 4), 5);
        due("round", round(x, 4), "0-2-0-1-4-3-4-1-0");
        due("account(5)", x.account(5), 4);
        due("account(7): no turn", x.account(7), 0);
        due("isWell()", x.isWell(), 1);
    }

    private static void p04JoinTurnsOnlyTheOther() {
        FerryRounds x = tree();
        due("round", round(x, 5), "3-1-2-1-0-5-4-5-0-1-3");
        x = river(1, 2, 3, 4);
        x.join(0, 1);
        x.join(2, 3);
        due("join(3, 1)", x.join(3, 1), 4);
        due("round", round(x, 0), "2-3-1-0-1-3-2");
    }

    private static void p04JoinRefused() {
        FerryRounds x = river(1, 2, 3);
        due("join(0, 3)", x.join(0, 3), NONE);
        due("join(3, 0)", x.join(3, 0), NONE);
        due("join(-1, -1)", x.join(-1, -1), NONE);
        due("join(3, 3)", x.join(3, 3), NONE);
        due("refusal(0)", x.refusal(0), NOTHING);
        due("join(1, 1)", x.join(1, 1), REFUSED);
        dueReasons(x, 2, 1, NOTHING);
        x.join(2, 1);
        due("join(1, 2)", x.join(1, 2), REFUSED);
        dueReasons(x, 3, 2, NOTHING);
        due("account(1)", x.account(1), 1);
        due("account(5)", x.account(5), 1);
    }

    private static void p04JoinAllTwelve() {
        FerryRounds x = river(1, 2, 3, 4, 5, 6, 7, 8, 9, 10, 11, 12);
        for (int bank = 1; bank < 12; bank++) {
            due("join(" + (bank - 1) + ", " + bank + ")", x.join(bank - 1, bank), bank + 1);
        }
        due("places", x.partOf(0, 1), 23);
        due("depth", x.bankOf(11, 2), 11);
        due("round", round(x, 0), "0-1-2-3-4-5-6-7-8-9-10-11-10-9-8-7-6-5-4-3-2-1-0");
        due("isWell()", x.isWell(), 1);
    }

    private static void p05Cut() {
        FerryRounds x = tree();
        due("cut(1, 0)", x.cut(1, 0), 0);
        due("round above", round(x, 1), "3-1-2-1-3");
        due("round below", round(x, 0), "0-5-4-5-0");
        due("isRope(0, 1)", x.isRope(0, 1), 0);
        due("isRope(1, 0)", x.isRope(1, 0), 0);
        due("cut(4, 5)", x.cut(4, 5), 4);
        due("round", round(x, 5), "0-5-0");
        due("round", round(x, 4), "4");
        due("cut(1, 3)", x.cut(1, 3), 1);
        due("round of the root alone", round(x, 3), "3");
        due("round", round(x, 2), "1-2-1");
        due("account(6)", x.account(6), 3);
        due("account(2)", x.account(2), 4);
        due("isWell()", x.isWell(), 1);
    }

    private static void p05CutRefused() {
        FerryRounds x = tree();
        due("cut(0, 6)", x.cut(0, 6), NONE);
        due("cut(6, 0)", x.cut(6, 0), NONE);
        due("cut(low, high)", x.cut(LOW, HIGH), NONE);
        due("cut(2, 0)", x.cut(2, 0), REFUSED);
        dueReasons(x, 4, 2, NOTHING);
        due("cut(0, 2)", x.cut(0, 2), REFUSED);
        dueReasons(x, 4, 0, NOTHING);
        due("cut(5, 5)", x.cut(5, 5), REFUSED);
        dueReasons(x, 4, 5, NOTHING);
        due("account(6)", x.account(6), 0);
    }

    private static void p06Turn() {
        FerryRounds x = tree();
        due("turn(0)", x.turn(0), 3);
        due("round", round(x, 0), "0-5-4-5-0-1-3-1-2-1-0");
        due("turn(4)", x.turn(4), 0);
        due("round", round(x, 0), "4-5-0-1-3-1-2-1-0-5-4");
        due("turn(4) again", x.turn(4), REFUSED);
        dueReasons(x, 7, 4, NOTHING);
        due("turn(6)", x.turn(6), NONE);
        due("turn(-1)", x.turn(-1), NONE);
        due("account(7)", x.account(7), 2);
        x = river(1);
        due("turn(0) of a bank alone", x.turn(0), REFUSED);
        dueReasons(x, 7, 0, NOTHING);
    }

    private static void p07Rise() {
        FerryRounds x = river(95, 99, 50, 0);
        x.join(1, 0);
        x.join(0, 2);
        due("rise(0, 5)", x.rise(0, 5), 2);
        due("weight 0 stays at 99", x.bankOf(0, 0), 99);
        due("weight 1", x.bankOf(1, 0), 99);
        due("weight 2", x.bankOf(2, 0), 55);
        due("weight of another part", x.bankOf(3, 0), 0);
        due("rise(2, -99)", x.rise(2, -99), 3);
        due("weight 2 stays at 0", x.bankOf(2, 0), 0);
        due("rise(2, -1)", x.rise(2, -1), REFUSED);
        dueReasons(x, 6, 3, NOTHING);
        due("rise(3, -1)", x.rise(3, -1), REFUSED);
        dueReasons(x, 6, 1, NOTHING);
        due("rise(1, 99)", x.rise(1, 99), 3);
        due("rise(1, 99) again", x.rise(1, 99), REFUSED);
        due("rise(0, 0)", x.rise(0, 0), REFUSED);
        dueReasons(x, 6, 3, NOTHING);
        due("rise(4, 100)", x.rise(4, 100), NONE);
        due("rise(0, 100)", x.rise(0, 100), BAD);
        due("rise(0, -100)", x.rise(0, -100), BAD);
        due("rise(0, low)", x.rise(0, LOW), BAD);
        due("rise(0, high)", x.rise(0, HIGH), BAD);
    }

    // ---- promises 8 to 13

    private static void p08p09AreJoined() {
        FerryRounds x = tree();
        x.bank(1);
        for (int one = 0; one < 7; one++) {
            for (int other = 0; other < 7; other++) {
                int want = one == other || one < 6 && other < 6 ? 1 : 0;
                due("areJoined(" + one + ", " + other + ")", x.areJoined(one, other), want);
                due("areJoinedAgain(" + one + ", " + other + ")", x.areJoinedAgain(one, other), want);
            }
        }
        x.cut(0, 1);
        due("areJoined(0, 1)", x.areJoined(0, 1), 0);
        due("areJoinedAgain(0, 1)", x.areJoinedAgain(0, 1), 0);
        due("areJoined(4, 0)", x.areJoined(4, 0), 1);
        due("areJoinedAgain(4, 0)", x.areJoinedAgain(4, 0), 1);
    }

    private static void p08p09NoSuchBank() {
        FerryRounds x = tree();
        due("areJoined(0, 6)", x.areJoined(0, 6), NONE);
        due("areJoined(-1, 0)", x.areJoined(-1, 0), NONE);
        due("areJoined(high, high)", x.areJoined(HIGH, HIGH), NONE);
        due("areJoinedAgain(0, 6)", x.areJoinedAgain(0, 6), NONE);
        due("areJoinedAgain(-1, 0)", x.areJoinedAgain(-1, 0), NONE);
        due("areJoinedAgain(low, low)", x.areJoinedAgain(LOW, LOW), NONE);
    }

    private static void p10BankOf() {
        FerryRounds x = tree();
        int[][] want = {
            {10, 3, 2, 4, 8, 2, 1, 3, 50},
            {20, 3, 1, 1, 9, 3, 3, 5, 100},
            {30, 3, 2, 2, 2, 1, 1, 1, 30},
            {5, 3, 0, 0, 10, 1, NOTHING, 6, 105},
            {15, 3, 4, 6, 6, 1, 5, 1, 15},
            {25, 3, 3, 5, 7, 2, 0, 2, 40}};
        for (int bank = 0; bank < 6; bank++) {
            for (int what = 0; what < 9; what++) {
                due("bankOf(" + bank + ", " + what + ")", x.bankOf(bank, what), want[bank][what]);
            }
        }
        due("bankOf(0, 9)", x.bankOf(0, 9), BAD);
        due("bankOf(0, -1)", x.bankOf(0, -1), BAD);
        due("bankOf(0, low)", x.bankOf(0, LOW), BAD);
        due("bankOf(6, 9)", x.bankOf(6, 9), NONE);
        due("bankOf(-1, 0)", x.bankOf(-1, 0), NONE);
    }

    private static void p11BelowAgain() {
        FerryRounds x = tree();
        int[] want = {50, 100, 30, 105, 15, 40};
        for (int bank = 0; bank < 6; bank++) {
            due("belowAgain(" + bank + ")", x.belowAgain(bank), want[bank]);
        }
        x.turn(4);
        due("belowAgain(4), turned", x.belowAgain(4), 105);
        due("belowAgain(0), turned", x.belowAgain(0), 65);
        due("belowAgain(3), turned", x.belowAgain(3), 5);
        due("belowAgain(6)", x.belowAgain(6), NONE);
        due("belowAgain(-1)", x.belowAgain(-1), NONE);
        due("belowAgain(low)", x.belowAgain(LOW), NONE);
    }

    private static void p12InRound() {
        FerryRounds x = tree();
        int[] want = {3, 1, 2, 1, 0, 5, 4, 5, 0, 1, 3};
        for (int place = 0; place < 11; place++) {
            due("inRound(4, " + place + ")", x.inRound(4, place), want[place]);
        }
        due("inRound(4, 11)", x.inRound(4, 11), NONE);
        due("inRound(4, -1)", x.inRound(4, -1), NONE);
        due("inRound(4, high)", x.inRound(4, HIGH), NONE);
        due("inRound(4, low)", x.inRound(4, LOW), NONE);
        due("inRound(6, 0)", x.inRound(6, 0), NONE);
        due("inRound(-1, 0)", x.inRound(-1, 0), NONE);
        due("inRound of a bank alone", river(3).inRound(0, 0), 0);
        due("inRound(0, 1) of a bank alone", river(3).inRound(0, 1), NONE);
    }

    private static void p13PartOf() {
        FerryRounds x = tree();
        x.bank(77);
        int[] want = {6, 11, 105, 4, 2};
        int[] alone = {1, 1, 77, 0, 6};
        for (int what = 0; what < 5; what++) {
            for (int bank = 0; bank < 6; bank++) {
                due("partOf(" + bank + ", " + what + ")", x.partOf(bank, what), want[what]);
            }
            due("partOf(6, " + what + ")", x.partOf(6, what), alone[what]);
        }
        due("partOf(0, 5)", x.partOf(0, 5), BAD);
        due("partOf(0, -1)", x.partOf(0, -1), BAD);
        due("partOf(7, 5)", x.partOf(7, 5), NONE);
        due("partOf(-1, 0)", x.partOf(-1, 0), NONE);
    }

    private static void p13HeaviestOfSeveral() {
        FerryRounds x = river(9, 1, 9, 9);
        x.join(1, 0);
        x.join(1, 3);
        x.join(3, 2);
        due("round", round(x, 0), "1-3-2-3-1-0-1");
        due("partOf(0, 4): first in the round", x.partOf(0, 4), 3);
        x.turn(0);
        due("partOf(0, 4), turned", x.partOf(1, 4), 0);
    }

    // ---- promises 14 to 17

    private static void p14IsRope() {
        FerryRounds x = tree();
        String ropes = "01 10 12 21 13 31 05 50 45 54";
        for (int one = 0; one < 6; one++) {
            for (int other = 0; other < 6; other++) {
                int want = ropes.contains("" + one + other) ? 1 : 0;
                due("isRope(" + one + ", " + other + ")", x.isRope(one, other), want);
            }
        }
        due("isRope(0, 6)", x.isRope(0, 6), NONE);
        due("isRope(6, 0)", x.isRope(6, 0), NONE);
        due("isRope(-1, 12)", x.isRope(-1, 12), NONE);
    }

    private static void p15IsBelow() {
        FerryRounds x = tree();
        String[] below = {"045", "01245", "2", "012345", "4", "45"};
        for (int one = 0; one < 6; one++) {
            for (int other = 0; other < 6; other++) {
                int want = below[other].indexOf('0' + one) >= 0 ? 1 : 0;
                due("isBelow(" + one + ", " + other + ")", x.isBelow(one, other), want);
            }
        }
        x.bank(1);
        due("isBelow(6, 3): another part", x.isBelow(6, 3), 0);
        due("isBelow(3, 6)", x.isBelow(3, 6), 0);
        due("isBelow(6, 6)", x.isBelow(6, 6), 1);
        due("isBelow(0, 7)", x.isBelow(0, 7), NONE);
        due("isBelow(-1, 0)", x.isBelow(-1, 0), NONE);
    }

    private static void p16Meet() {
        FerryRounds x = tree();
        due("meet(4, 2)", x.meet(4, 2), 1);
        due("meet(2, 4)", x.meet(2, 4), 1);
        due("meet(4, 0)", x.meet(4, 0), 0);
        due("meet(3, 4)", x.meet(3, 4), 3);
        due("meet(5, 5)", x.meet(5, 5), 5);
        x.turn(4);
        due("meet(3, 2), turned", x.meet(3, 2), 1);
        due("meet(5, 2), turned", x.meet(5, 2), 5);
        x.bank(1);
        due("meet(0, 6)", x.meet(0, 6), NOTHING);
        due("meet(6, 0)", x.meet(6, 0), NOTHING);
        due("meet(0, 7)", x.meet(0, 7), NONE);
        due("meet(-1, 0)", x.meet(-1, 0), NONE);
    }

    private static void p17Way() {
        FerryRounds x = tree();
        due("way(4, 3, -1)", x.way(4, 3, -1), 4);
        int[] way = {4, 5, 0, 1, 3};
        for (int place = 0; place < 5; place++) {
            due("way(4, 3, " + place + ")", x.way(4, 3, place), way[place]);
            due("way(3, 4, " + place + ")", x.way(3, 4, place), way[4 - place]);
        }
        int[] over = {2, 1, 0, 5};
        due("way(2, 5, -1)", x.way(2, 5, -1), 3);
        for (int place = 0; place < 4; place++) {
            due("way(2, 5, " + place + ")", x.way(2, 5, place), over[place]);
        }
        due("way(2, 5, 4)", x.way(2, 5, 4), NONE);
        due("way(2, 5, -2)", x.way(2, 5, -2), NONE);
        due("way(2, 5, high)", x.way(2, 5, HIGH), NONE);
        due("way(2, 5, low)", x.way(2, 5, LOW), NONE);
        due("way(0, 0, -1)", x.way(0, 0, -1), 0);
        due("way(0, 0, 0)", x.way(0, 0, 0), 0);
        due("way(0, 0, 1)", x.way(0, 0, 1), NONE);
        x.bank(1);
        due("way(0, 6, 99): two parts first", x.way(0, 6, 99), NOTHING);
        due("way(0, 6, -1)", x.way(0, 6, -1), NOTHING);
        due("way(0, 7, 0)", x.way(0, 7, 0), NONE);
        due("way(-1, 0, 0)", x.way(-1, 0, 0), NONE);
    }

    // ---- promises 18 to 21

    private static void p18Would() {
        FerryRounds x = tree();
        x.bank(1);
        x.bank(2);
        x.join(7, 6);
        due("would(4, 6)", x.would(4, 6), 3);
        due("would(6, 4)", x.would(6, 4), 7);
        due("would(4, 0)", x.would(4, 0), NOTHING);
        due("would(4, 4)", x.would(4, 4), NOTHING);
        due("would(8, 8)", x.would(8, 8), NONE);
        due("would(0, 8)", x.would(0, 8), NONE);
        due("would(-1, 0)", x.would(-1, 0), NONE);
        due("nothing is turned", round(x, 6), "7-6-7");
        due("account(7)", x.account(7), 0);
    }

    private static void p19WouldDiffer() {
        FerryRounds x = tree();
        due("wouldDiffer(0, 1)", x.wouldDiffer(0, 1), 5);
        due("wouldDiffer(1, 0)", x.wouldDiffer(1, 0), 5);
        due("wouldDiffer(4, 5)", x.wouldDiffer(4, 5), 75);
        due("wouldDiffer(3, 1)", x.wouldDiffer(3, 1), 95);
        due("wouldDiffer(0, 4)", x.wouldDiffer(0, 4), NOTHING);
        due("wouldDiffer(0, 0)", x.wouldDiffer(0, 0), NOTHING);
        due("wouldDiffer(0, 6)", x.wouldDiffer(0, 6), NONE);
        due("wouldDiffer(-1, 0)", x.wouldDiffer(-1, 0), NONE);
        due("round", round(x, 0), "3-1-2-1-0-5-4-5-0-1-3");
        x.weigh(1, 15);
        due("wouldDiffer(0, 1), alike", x.wouldDiffer(0, 1), 0);
        due("account(6)", x.account(6), 0);
    }

    private static void p20Middle() {
        FerryRounds x = tree();
        for (int bank = 0; bank < 6; bank++) {
            due("middle(" + bank + ")", x.middle(bank), 1);
        }
        x.weigh(4, 99);
        due("middle(2), a heavy end", x.middle(2), 4);
        x = river(5, 5, 5, 5);
        x.join(3, 2);
        x.join(2, 1);
        x.join(1, 0);
        due("middle(3), the lowest of several", x.middle(3), 1);
        x = river(0, 0, 0);
        x.join(2, 1);
        x.join(1, 0);
        due("middle(1) without weights", x.middle(1), 0);
        due("middle of a bank alone", river(1, 9).middle(1), 1);
        x = river(0, 1);
        x.join(0, 1);
        due("middle(0) of which nothing heavy is left", x.middle(0), 1);
        due("middle(3)", x.middle(3), NONE);
        due("middle(-1)", x.middle(-1), NONE);
    }

    private static void p21Ranked() {
        FerryRounds x = river(10, 5, 5, 10, 30, 0);
        x.join(2, 1);
        due("ranked(0): the heaviest", x.ranked(0), 4);
        due("ranked(1): more banks", x.ranked(1), 2);
        due("ranked(2): the lower root", x.ranked(2), 0);
        due("ranked(3)", x.ranked(3), 3);
        due("ranked(4)", x.ranked(4), 5);
        due("ranked(5)", x.ranked(5), NONE);
        due("ranked(-1)", x.ranked(-1), NONE);
        due("ranked(high)", x.ranked(HIGH), NONE);
        due("ranked(low)", x.ranked(LOW), NONE);
        due("ranked(0) without banks", river().ranked(0), NONE);
    }

    // ---- promises 22 to 30

    private static void p22Describe() {
        FerryRounds x = tree();
        due("describe(4)", x.describe(4), 8);
        due("line", line(x), "4$15:3+4");
        due("describe(3)", x.describe(3), 7);
        due("line", line(x), "3$5:3+0");
        due("describe(6)", x.describe(6), NONE);
        due("describe(-1)", x.describe(-1), NONE);
        due("the line stays", line(x), "3$5:3+0");
        x = river(0, 0, 0, 0, 0, 0, 0, 0, 0, 0, 99, 7);
        x.join(11, 10);
        due("describe(10)", x.describe(10), 10);
        due("line", line(x), "10$99:11+1");
        x.join(10, 9);
        due("describe(9)", x.describe(9), 8);
        due("line", line(x), "9$0:11+2");
    }

    private static void p22DeepestLine() {
        FerryRounds x = river(99, 1, 2, 3, 4, 5, 6, 7, 8, 9, 10, 11);
        for (int bank = 11; bank > 0; bank--) {
            x.join(bank, bank - 1);
        }
        due("describe(0)", x.describe(0), 10);
        due("line", line(x), "0$99:11+11");
    }

    private static void p23Tell() {
        FerryRounds x = tree();
        due("tell(4)", x.tell(4), 21);
        due("line", line(x), "3-1-2-1-0-5-4-5-0-1-3");
        due("tell(6)", x.tell(6), NONE);
        due("tell(low)", x.tell(LOW), NONE);
        due("the line stays", line(x), "3-1-2-1-0-5-4-5-0-1-3");
        due("tell of a bank alone", river(1).tell(0), 1);
        x = river(1, 1, 1, 1, 1, 1, 1, 1, 1, 1, 1, 1);
        for (int bank = 0; bank < 12; bank++) {
            x.join(10, bank);
        }
        due("tell, the longest line", x.tell(0), 58);
        due("line", line(x), "10-11-10-9-10-8-10-7-10-6-10-5-10-4-10-3-10-2-10-1-10-0-10");
    }

    private static void p24Sign() {
        FerryRounds x = river(5);
        due("sign(0), empty at first", x.sign(0), NONE);
        x.describe(0);
        due("sign(0)", x.sign(0), '0');
        due("sign(1)", x.sign(1), '$');
        due("sign(6)", x.sign(6), '0');
        due("sign(7)", x.sign(7), NONE);
        due("sign(-1)", x.sign(-1), NONE);
        due("sign(high)", x.sign(HIGH), NONE);
        due("sign(low)", x.sign(LOW), NONE);
        x.tell(0);
        due("sign(1), a shorter line", x.sign(1), NONE);
    }

    private static void p25Append() {
        FerryRounds x = new FerryRounds();
        due("append(31)", x.append(31), BAD);
        due("append(127)", x.append(127), BAD);
        due("append(low)", x.append(LOW), BAD);
        due("append(high)", x.append(HIGH), BAD);
        due("append(32)", x.append(32), 1);
        due("append(126)", x.append(126), 2);
        for (int length = 3; length <= 70; length++) {
            due("append(98)", x.append(98), length);
        }
        due("append(98), a 71st", x.append(98), BAD);
        due("account(9)", x.account(9), 70);
        x.read();
        due("account(9), read", x.account(9), 0);
        due("append(98)", x.append(98), 1);
    }

    private static void p26Read() {
        FerryRounds x = new FerryRounds();
        due("all six commands", read(x, "b5;b06;b7;j0~1;w2=99;j1~02;t1;u1-3;c1~0"), 9);
        due("round", round(x, 1), "1-2-1");
        due("round", round(x, 0), "0");
        due("weight 0", x.bankOf(0, 0), 2);
        due("weight 1", x.bankOf(1, 0), 3);
        due("weight 2", x.bankOf(2, 0), 96);
        due("one change", x.account(10), 1);
        due("joined", x.account(5), 2);
        due("cut", x.account(6), 1);
        due("turned by the text", x.account(7), 1);
        due("the text is empty", x.account(9), 0);
        due("u with +", read(x, "u0+9"), 1);
        due("weight 0", x.bankOf(0, 0), 11);
    }

    private static void p26ReadLongest() {
        FerryRounds x = new FerryRounds();
        StringBuilder text = new StringBuilder("b0;b0;j0~1");
        for (int i = 0; i < 20; i++) {
            text.append(i % 2 == 0 ? ";t1" : ";t0");
        }
        due("length", text.length(), 70);
        due("23 commands", read(x, text.toString()), 23);
        due("account(7)", x.account(7), 20);
        due("account(10)", x.account(10), 1);
        due("undo()", x.undo(), 0);
        due("account(0)", x.account(0), 0);
        due("account(7)", x.account(7), 0);
    }

    private static void p26FaultPositions() {
        String[] texts = {"", "x", "b", "bx", "b5x", "b123", "b5;", "b5;;", ";b5", "b5;x", "b5 ", " b5",
            "w", "w1", "w1=", "w1=x", "w12=3", "w123=3", "w1~3", "w1=123", "w1=12;", "j1", "j1=2", "j1~",
            "j1~2~", "c1", "c1-2", "c1~", "c1~2;c", "t", "t1=", "t111", "u1", "u1=", "u1+", "u1+-", "u1-100",
            "u1+5;u", "B5", "b-5", "b5;b5;b5;q", "u1*3"};
        int[] faults = {0, 0, 1, 1, 2, 3, 3, 3, 0, 3, 2, 0,
            1, 2, 3, 3, 5, 3, 2, 5, 6, 2, 2, 3,
            4, 2, 2, 3, 6, 1, 2, 3, 2, 2, 3, 3, 5,
            6, 0, 1, 9, 2};
        due("as many", texts.length, faults.length);
        for (int i = 0; i < texts.length; i++) {
            FerryRounds x = river(1, 2, 3);
            int want = texts[i].equals("w12=3") ? BAD : -100 - faults[i];
            due("read of '" + texts[i] + "'", read(x, texts[i]), want);
            due("the text is empty", x.account(9), 0);
            due("nothing done", x.account(10), 3);
            due("no reasons", x.refusal(0), NOTHING);
        }
        FerryRounds x = new FerryRounds();
        write(x, "b1;b2;b3;b4;b5;b6;b7;b8;b9;b1;b1;b1;b1;b1;b1;b1;b1;b1;b1;b1;b1;b1;b1;b");
        due("a fault at the very end", x.read(), -100 - 70);
    }

    private static void p26ReadRefused() {
        FerryRounds x = river(1, 2, 3);
        x.join(0, 1);
        due("read", read(x, "b9;j1~2;t2;w0=50;u0+1;c0~1;c0~1;b100"), -100 - 35);
        due("read", read(x, "b9;j1~2;t2;w0=50;u0+1;c0~1;c0~1;b10"), REFUSED);
        dueReasons(x, 4, 0, 6);
        due("banks", x.account(0), 3);
        due("ropes", x.account(1), 1);
        due("joined", x.account(5), 1);
        due("cut", x.account(6), 0);
        due("turned", x.account(7), 0);
        due("weights", x.account(3), 6);
        due("changes", x.account(10), 4);
        due("round", round(x, 1), "0-1-0");
        due("the text is empty", x.account(9), 0);
        due("read, refused first", read(x, "t0"), REFUSED);
        dueReasons(x, 7, 0, 0);
        due("turn(0)", x.turn(0), REFUSED);
        dueReasons(x, 7, 0, NOTHING);
    }

    private static void p26ReadBad() {
        FerryRounds x = river(1, 2);
        due("join(0, 0)", x.join(0, 0), REFUSED);
        due("no such bank", read(x, "b5;w0=9;t3"), BAD);
        due("banks", x.account(0), 2);
        due("weight", x.bankOf(0, 0), 1);
        dueReasons(x, 2, 0, NOTHING);
        due("w", read(x, "w2=5"), BAD);
        due("j", read(x, "j0~2"), BAD);
        due("c", read(x, "c99~0"), BAD);
        due("u", read(x, "u12+5"), BAD);
        due("the first that fails counts", read(x, "t2;t0"), BAD);
        dueReasons(x, 2, 0, NOTHING);
        due("the first that fails counts", read(x, "t0;t2"), REFUSED);
        dueReasons(x, 7, 0, 0);
        due("changes", x.account(10), 2);
    }

    private static void p26ReadEachReason() {
        FerryRounds x = river(1, 2, 3);
        x.join(2, 1);
        due("2", read(x, "b5;j0~0"), REFUSED);
        dueReasons(x, 2, 0, 1);
        due("3", read(x, "b5;b6;j1~2"), REFUSED);
        dueReasons(x, 3, 2, 2);
        due("4", read(x, "c1~0"), REFUSED);
        dueReasons(x, 4, 1, 0);
        due("5", read(x, "w1=02"), REFUSED);
        dueReasons(x, 5, 2, 0);
        due("6", read(x, "u1+0"), REFUSED);
        dueReasons(x, 6, 2, 0);
        due("6 with -", read(x, "u1-00"), REFUSED);
        due("7", read(x, "t1;t1"), REFUSED);
        dueReasons(x, 7, 1, 1);
        due("1", read(x, "b1;b1;b1;b1;b1;b1;b1;b1;b1;b1"), REFUSED);
        dueReasons(x, 1, 12, 9);
        due("banks", x.account(0), 3);
    }

    private static void p27Refusal() {
        FerryRounds x = river(1, 2);
        due("refusal(3) before the rest", x.refusal(3), BAD);
        due("refusal(-1)", x.refusal(-1), BAD);
        due("refusal(low)", x.refusal(LOW), BAD);
        dueReasons(x, NOTHING, NOTHING, NOTHING);
        x.join(1, 1);
        dueReasons(x, 2, 1, NOTHING);
        x.join(0, 1);
        x.bank(100);
        x.bankOf(9, 9);
        x.save();
        x.restore();
        x.undo();
        dueReasons(x, 2, 1, NOTHING);
        due("refusal(3)", x.refusal(3), BAD);
        x.turn(0);
        dueReasons(x, 7, 0, NOTHING);
    }

    private static void p28Account() {
        FerryRounds x = tree();
        x.bank(7);
        x.turn(0);
        x.cut(4, 5);
        write(x, "abc");
        int[] want = {7, 4, 3, 112, 11, 5, 1, 1, 2, 3, 8};
        for (int what = 0; what < 11; what++) {
            due("account(" + what + ")", x.account(what), want[what]);
        }
        due("account(11)", x.account(11), BAD);
        due("account(-1)", x.account(-1), BAD);
        due("account(high)", x.account(HIGH), BAD);
        due("account(8) of one part", tree().account(8), 4);
        x = river(1, 2, 3);
        x.join(1, 0);
        due("account(8), the bank 0 is the deepest", x.account(8), 1);
        x.join(2, 1);
        due("account(8), the bank 0 is the deepest", x.account(8), 2);
        due("partOf(1, 3)", x.partOf(1, 3), 2);
    }

    private static void p29IsWell() {
        FerryRounds x = new FerryRounds();
        due("isWell() without banks", x.isWell(), 1);
        IntSupplier[] steps = {() -> x.bank(5), () -> x.bank(0), () -> x.bank(99), () -> x.join(0, 1),
            () -> x.join(2, 1), () -> x.turn(0), () -> x.cut(1, 2), () -> x.undo(), () -> x.rise(0, 9),
            () -> x.save(), () -> x.cut(0, 1), () -> x.restore()};
        for (int step = 0; step < steps.length; step++) {
            due("step " + step + " goes well", steps[step].getAsInt() >= 0 ? 1 : 0, 1);
            due("isWell() after step " + step, x.isWell(), 1);
        }
    }

    private static void p30Mean() {
        FerryRounds x = river(1);
        due("mean() of one bank", x.mean(), 0);
        due("mean() without banks", river().mean(), NOTHING);
        int[] sums = {0, 1, 3, 6, 10, 15, 21, 28, 36, 45, 55, 66};
        for (int bank = 1; bank < 12; bank++) {
            x.bank(1);
            x.join(bank - 1, bank);
            due("mean() of a row of " + (bank + 1), x.mean(),
                    Float.floatToIntBits((float) sums[bank] / (float) (bank + 1)));
        }
        x = river(1, 2);
        x.join(1, 0);
        due("mean(), the bank 0 is no root", x.mean(), Float.floatToIntBits(0.5f));
        for (int banks = 2; banks <= 12; banks++) {
            FerryRounds star = river(new int[banks]);
            for (int joined = 1; joined < banks; joined++) {
                star.join(0, joined);
                due("mean() of a star", star.mean(), Float.floatToIntBits((float) joined / (float) banks));
            }
        }
    }

    // ---- promises 31 to 33

    private static void p31Undo() {
        FerryRounds x = tree();
        x.weigh(0, 11);
        x.rise(0, 1);
        x.turn(4);
        x.cut(1, 0);
        due("account(10), no more than 8", x.account(10), 8);
        due("undo(), the cut", x.undo(), 7);
        due("round", round(x, 0), "4-5-0-1-3-1-2-1-0-5-4");
        due("account(6)", x.account(6), 0);
        due("undo(), the turn", x.undo(), 6);
        due("round", round(x, 0), "3-1-2-1-0-5-4-5-0-1-3");
        due("account(7)", x.account(7), 0);
        due("undo(), the rise", x.undo(), 5);
        due("account(3)", x.account(3), 106);
        due("undo(), the weight", x.undo(), 4);
        due("weight", x.bankOf(0, 0), 10);
        due("undo(), a join", x.undo(), 3);
        due("round", round(x, 4), "4-5-4");
        due("account(5)", x.account(5), 4);
        due("undo()", x.undo(), 2);
        due("undo()", x.undo(), 1);
        due("undo()", x.undo(), 0);
        due("round", round(x, 1), "1-0-1");
        due("undo(), a ninth", x.undo(), NOTHING);
        due("account(0)", x.account(0), 6);
        due("join(1, 2) again", x.join(1, 2), 3);
        due("account(10)", x.account(10), 1);
    }

    private static FerryRounds changed(int changes) {
        FerryRounds x = tree();
        x.turn(2);
        IntSupplier[] kinds = {() -> x.bank(44), () -> x.weigh(0, 44), () -> x.join(1, 6), () -> x.cut(1, 0),
            () -> x.turn(5), () -> x.rise(2, 7), () -> read(x, "j6~0;t3;c1~2;w4=1;u1-5;b3")};
        for (int change = 0; change < changes; change++) {
            due("change " + change + " goes well", kinds[change].getAsInt() >= 0 ? 1 : 0, 1);
        }
        return x;
    }

    private static void p31UndoOfEachChange() {
        for (int changes = 6; changes >= 0; changes--) {
            String before = shape(changed(changes));
            FerryRounds x = changed(7);
            due("change " + changes + " changes", shape(changed(changes + 1)).equals(before) ? 1 : 0, 0);
            for (int left = 7; left > changes; left--) {
                due("undo()", x.undo(), left);
            }
            due("all before change " + changes, shape(x), before);
        }
    }

    private static void p31UndoOnlyChanges() {
        FerryRounds x = river(5);
        x.describe(0);
        x.turn(0);
        x.bank(100);
        write(x, "b7;");
        x.save();
        x.isWell();
        due("undo(), the bank", x.undo(), 0);
        due("account(0)", x.account(0), 0);
        due("the line stays", line(x), "0$5:0+0");
        due("the text stays", x.account(9), 3);
        dueReasons(x, 7, 0, NOTHING);
        write(x, "b8");
        due("read()", x.read(), 2);
        due("undo(), the text as a whole", x.undo(), 0);
        due("account(0)", x.account(0), 0);
        due("the text stays empty", x.account(9), 0);
        due("undo()", x.undo(), NOTHING);
        due("bank(3)", x.bank(3), 0);
        due("its weight", x.bankOf(0, 0), 3);
    }

    private static void p31UndoAfterManyChanges() {
        FerryRounds x = river(0);
        for (int weight = 1; weight <= 30; weight++) {
            x.weigh(0, weight);
            x.weigh(0, weight);
            x.weigh(0, -1);
        }
        for (int left = 7; left >= 0; left--) {
            due("undo()", x.undo(), left);
            due("weight", x.bankOf(0, 0), 22 + left);
        }
        due("undo()", x.undo(), NOTHING);
        due("weight", x.bankOf(0, 0), 22);
    }

    private static void p32Save() {
        FerryRounds x = new FerryRounds();
        due("save() without banks", x.save(), 0);
        x.bank(5);
        x.bank(6);
        due("save()", x.save(), 2);
        due("no change", x.account(10), 2);
        x.bank(7);
        x.undo();
        x.undo();
        due("restore(), the later one", x.restore(), 2);
        due("weight", x.bankOf(1, 0), 6);
    }

    private static void p33Restore() {
        FerryRounds x = new FerryRounds();
        due("restore() without a snapshot", x.restore(), NOTHING);
        x = tree();
        due("restore(), none yet", x.restore(), NOTHING);
        due("still to be undone", x.account(10), 8);
        x.turn(4);
        x.save();
        x.turn(0);
        x.cut(0, 5);
        x.rise(0, 9);
        x.bank(9);
        x.join(6, 2);
        x.describe(6);
        write(x, "b1");
        x.turn(6);
        due("restore()", x.restore(), 6);
        due("round", round(x, 2), "4-5-0-1-3-1-2-1-0-5-4");
        int[] want = {6, 5, 1, 105, 11, 5, 0, 1, 4, 2, 0};
        for (int what = 0; what < 11; what++) {
            due("account(" + what + ")", x.account(what), want[what]);
        }
        due("the line stays", line(x), "6$9:6+0");
        dueReasons(x, 7, 6, NOTHING);
        due("undo()", x.undo(), NOTHING);
        x.cut(1, 0);
        due("undo()", x.undo(), 0);
        x.cut(1, 2);
        due("restore(), it stays", x.restore(), 6);
        due("isRope(1, 2)", x.isRope(1, 2), 1);
        due("isWell()", x.isWell(), 1);
    }

    private static void p33RestoreOfNoBanks() {
        FerryRounds x = new FerryRounds();
        x.save();
        x.bank(1);
        x.bank(2);
        x.join(0, 1);
        due("restore()", x.restore(), 0);
        due("account(5)", x.account(5), 0);
        due("bank(4)", x.bank(4), 0);
        due("round", round(x, 0), "0");
    }

    // Calls that are wrong in any way leave all as it is.
    private static void errorsChangeNothing() {
        FerryRounds x = tree();
        x.describe(4);
        x.bank(100);
        x.weigh(0, 10);
        x.weigh(0, 100);
        x.join(4, 4);
        x.join(4, 3);
        x.join(4, 9);
        x.cut(0, 4);
        x.turn(3);
        x.rise(0, 0);
        x.rise(0, 100);
        x.append(200);
        read(x, "b1;b");
        read(x, "b1;c0~4");
        read(x, "b1;c0~9");
        int[] want = {6, 5, 1, 105, 11, 5, 0, 0, 4, 0, 8};
        for (int what = 0; what < 11; what++) {
            due("account(" + what + ")", x.account(what), want[what]);
        }
        due("line", line(x), "4$15:3+4");
        due("round", round(x, 0), "3-1-2-1-0-5-4-5-0-1-3");
        dueReasons(x, 4, 0, 1);
    }

    public static void main(String[] args) {
        run("constants", PromiseTests::constants);
        run("promise 1", PromiseTests::p01NewObject);
        run("promise 2", PromiseTests::p02Bank);
        run("promise 2, edges", PromiseTests::p02BankEdges);
        run("promise 3", PromiseTests::p03Weigh);
        run("promise 4", PromiseTests::p04Join);
        run("promise 4, turned", PromiseTests::p04JoinTurnsOnlyTheOther);
        run("promise 4, refused", PromiseTests::p04JoinRefused);
        run("promise 4, all twelve", PromiseTests::p04JoinAllTwelve);
        run("promise 5", PromiseTests::p05Cut);
        run("promise 5, refused", PromiseTests::p05CutRefused);
        run("promise 6", PromiseTests::p06Turn);
        run("promise 7", PromiseTests::p07Rise);
        run("promises 8 and 9", PromiseTests::p08p09AreJoined);
        run("promises 8 and 9, no such bank", PromiseTests::p08p09NoSuchBank);
        run("promise 10", PromiseTests::p10BankOf);
        run("promise 11", PromiseTests::p11BelowAgain);
        run("promise 12", PromiseTests::p12InRound);
        run("promise 13", PromiseTests::p13PartOf);
        run("promise 13, of several", PromiseTests::p13HeaviestOfSeveral);
        run("promise 14", PromiseTests::p14IsRope);
        run("promise 15", PromiseTests::p15IsBelow);
        run("promise 16", PromiseTests::p16Meet);
        run("promise 17", PromiseTests::p17Way);
        run("promise 18", PromiseTests::p18Would);
        run("promise 19", PromiseTests::p19WouldDiffer);
        run("promise 20", PromiseTests::p20Middle);
        run("promise 21", PromiseTests::p21Ranked);
        run("promise 22", PromiseTests::p22Describe);
        run("promise 22, the deepest", PromiseTests::p22DeepestLine);
        run("promise 23", PromiseTests::p23Tell);
        run("promise 24", PromiseTests::p24Sign);
        run("promise 25", PromiseTests::p25Append);
        run("promise 26", PromiseTests::p26Read);
        run("promise 26, the longest text", PromiseTests::p26ReadLongest);
        run("promise 26, faults", PromiseTests::p26FaultPositions);
        run("promise 26, refused", PromiseTests::p26ReadRefused);
        run("promise 26, bad", PromiseTests::p26ReadBad);
        run("promise 26, each reason", PromiseTests::p26ReadEachReason);
        run("promise 27", PromiseTests::p27Refusal);
        run("promise 28", PromiseTests::p28Account);
        run("promise 29", PromiseTests::p29IsWell);
        run("promise 30", PromiseTests::p30Mean);
        run("promise 31", PromiseTests::p31Undo);
        run("promise 31, each change", PromiseTests::p31UndoOfEachChange);
        run("promise 31, only changes", PromiseTests::p31UndoOnlyChanges);
        run("promise 31, many changes", PromiseTests::p31UndoAfterManyChanges);
        run("promise 32", PromiseTests::p32Save);
        run("promise 33", PromiseTests::p33Restore);
        run("promise 33, no banks", PromiseTests::p33RestoreOfNoBanks);
        run("errors", PromiseTests::errorsChangeNothing);
        end();
    }
}
