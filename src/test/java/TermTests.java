import java.util.ArrayList;
import java.util.List;

/** A test for each sentence of the document's section "Terms" that can be broken, on many rivers. */
public final class TermTests extends Checks {
    private static final int MIXED = 60;

    // Rivers of all sizes, whose banks have been joined, cut and turned in a fixed disorder.
    private static FerryRounds mixed(int seed) {
        int banks = seed % 13;
        FerryRounds x = new FerryRounds();
        int next = seed * 7919 + 13;
        for (int bank = 0; bank < banks; bank++) {
            next = next * 1103515245 + 12345;
            x.bank((next >>> 16) % 100);
        }
        for (int step = 0; step < 3 * banks; step++) {
            next = next * 1103515245 + 12345;
            int one = (next >>> 8) % banks;
            int other = (next >>> 20) % banks;
            if (step % 4 < 2) {
                x.join(one, other);
            } else if (step % 4 == 2) {
                x.turn(one);
            } else {
                x.cut(one, x.bankOf(one, 6));
            }
        }
        return x;
    }

    private static List<Made> rivers() {
        List<Made> rivers = new ArrayList<>();
        rivers.add(() -> alone(12));
        rivers.add(Checks::row);
        rivers.add(Checks::star);
        rivers.add(Checks::tree);
        rivers.add(Checks::busy);
        for (int seed = 0; seed < MIXED; seed++) {
            int mixed = seed;
            rivers.add(() -> mixed(mixed));
        }
        return rivers;
    }

    private static List<Integer> places(FerryRounds x, int bank) {
        List<Integer> places = new ArrayList<>();
        for (int there = x.inRound(bank, 0); there != NONE; there = x.inRound(bank, places.size())) {
            places.add(there);
        }
        return places;
    }

    // ---- banks and ropes

    private static void toldJoined() {
        for (Made made : rivers()) {
            FerryRounds x = made.get();
            for (int other = 1; other < x.account(0); other++) {
                if (x.join(0, other) >= 0) {
                    due("isRope(0, " + other + ")", x.isRope(0, other), 1);
                    due("areJoined(0, " + other + ")", x.areJoined(0, other), 1);
                    due("areJoinedAgain(" + other + ", 0)", x.areJoinedAgain(other, 0), 1);
                }
            }
            due("one part then", x.account(2), Math.min(1, x.account(0)));
        }
    }

    private static void neverARing() {
        for (Made made : rivers()) {
            FerryRounds x = made.get();
            due("ropes and parts", x.account(1) + x.account(2), x.account(0));
            for (int one = 0; one < x.account(0); one++) {
                int other = x.bankOf(one, 6);
                if (other >= 0) {
                    due("join, a second rope", made.get().join(one, other), REFUSED);
                    due("join, a ring", made.get().join(x.bankOf(one, 1), one), REFUSED);
                }
            }
        }
    }

    private static void withoutRopes() {
        for (Made made : rivers()) {
            FerryRounds x = made.get();
            for (int bank = 0; bank < x.account(0); bank++) {
                due("a part of its own", x.bankOf(bank, 5) == 0 ? 1 : 0, x.partOf(bank, 0) == 1 ? 1 : 0);
            }
        }
    }

    // ---- rounds

    private static void overEachRopeTwice() {
        for (Made made : rivers()) {
            for (int bank = 0; bank < made.get().account(0); bank++) {
                FerryRounds x = made.get();
                List<Integer> round = places(x, bank);
                int[] over = new int[12 * 12];
                for (int place = 1; place < round.size(); place++) {
                    over[12 * round.get(place - 1) + round.get(place)]++;
                }
                due("it begins with the root", round.get(0), x.bankOf(bank, 1));
                due("it ends with the root", round.get(round.size() - 1), x.bankOf(bank, 1));
                due("its places", round.size(), 2 * x.partOf(bank, 0) - 1);
                for (int one : round) {
                    for (int other : round) {
                        due("from " + one + " to " + other, over[12 * one + other], x.isRope(one, other));
                        x = made.get();
                    }
                }
            }
        }
    }

    private static void firstAndLastPlace() {
        for (Made made : rivers()) {
            FerryRounds x = made.get();
            for (int bank = 0; bank < x.account(0); bank++) {
                List<Integer> round = places(x, bank);
                due("the first place of " + bank, x.bankOf(bank, 3), round.indexOf(bank));
                due("the last place of " + bank, x.bankOf(bank, 4), round.lastIndexOf(bank));
            }
        }
    }

    private static List<Integer> turned(List<Integer> round, int bank) {
        int first = round.indexOf(bank);
        if (first == 0) {
            return round;
        }
        List<Integer> turned = new ArrayList<>(round.subList(first, round.size()));
        turned.addAll(round.subList(1, first + 1));
        return turned;
    }

    private static void turning() {
        for (Made made : rivers()) {
            for (int bank = 0; bank < made.get().account(0); bank++) {
                FerryRounds x = made.get();
                List<Integer> round = turned(places(x, bank), bank);
                x.turn(bank);
                due("the round turned to " + bank, places(x, bank).toString(), round.toString());
            }
        }
    }

    private static void joining() {
        for (Made made : rivers()) {
            for (int one = 0; one < made.get().account(0); one++) {
                for (int other = 0; other < made.get().account(0); other++) {
                    FerryRounds x = made.get();
                    List<Integer> round = places(x, one);
                    if (!round.contains(other)) {
                        List<Integer> put = new ArrayList<>(turned(places(x, other), other));
                        put.add(one);
                        round.addAll(round.indexOf(one) + 1, put);
                        x.join(one, other);
                        due("the round joined", places(x, other).toString(), round.toString());
                    }
                }
            }
        }
    }

    private static void cutting() {
        for (Made made : rivers()) {
            for (int one = 0; one < made.get().account(0); one++) {
                for (int other = 0; other < made.get().account(0); other++) {
                    FerryRounds x = made.get();
                    if (x.isRope(one, other) == 1) {
                        List<Integer> round = places(x, one);
                        int lower = round.indexOf(one) > round.indexOf(other) ? one : other;
                        List<Integer> taken = round.subList(round.indexOf(lower), round.lastIndexOf(lower) + 1);
                        String below = taken.toString();
                        taken.clear();
                        round.remove(round.size() > 1 ? x.bankOf(lower, 3) : 0);
                        due("cut(" + one + ", " + other + ")", x.cut(one, other), lower);
                        due("the round below", places(x, lower).toString(), below);
                        due("the round left", places(x, one + other - lower).toString(), round.toString());
                    }
                }
            }
        }
    }

    // ---- above and below

    private static void aboveAndBelow() {
        for (Made made : rivers()) {
            int banks = made.get().account(0);
            for (int one = 0; one < banks; one++) {
                FerryRounds x = made.get();
                int depth = -1;
                for (int other = 0; other < banks; other++) {
                    int below = x.bankOf(one, 1) == x.bankOf(other, 1) && x.bankOf(one, 3) >= x.bankOf(other, 3)
                            && x.bankOf(one, 4) <= x.bankOf(other, 4) ? 1 : 0;
                    due("isBelow(" + one + ", " + other + ")", x.isBelow(one, other), below);
                    depth += below;
                }
                due("the depth of " + one, x.bankOf(one, 2), depth);
                due("itself", x.isBelow(one, one), 1);
            }
        }
    }

    private static void whereTheyMeet() {
        for (Made made : rivers()) {
            int banks = made.get().account(0);
            for (int one = 0; one < banks; one++) {
                for (int other = 0; other < banks; other++) {
                    FerryRounds x = made.get();
                    int deepest = NOTHING;
                    int depth = -1;
                    for (int bank = 0; bank < banks; bank++) {
                        if (x.isBelow(one, bank) + x.isBelow(other, bank) == 2 && x.bankOf(bank, 2) > depth) {
                            deepest = bank;
                            depth = x.bankOf(bank, 2);
                        }
                    }
                    due("meet(" + one + ", " + other + ")", x.meet(one, other), deepest);
                }
            }
        }
    }

    // ---- reasons

    private static void reasonsInTheirOrder() {
        FerryRounds x = row();
        due("1", x.bank(0), REFUSED);
        dueReasons(x, 1, 12, NOTHING);
        due("2", x.join(7, 7), REFUSED);
        dueReasons(x, 2, 7, NOTHING);
        x.turn(9);
        due("3", x.join(2, 7), REFUSED);
        dueReasons(x, 3, 9, NOTHING);
        due("4", x.cut(7, 2), REFUSED);
        dueReasons(x, 4, 7, NOTHING);
        due("5", x.weigh(7, 8), REFUSED);
        dueReasons(x, 5, 8, NOTHING);
        x.cut(7, 6);
        due("6", x.rise(8, 0), REFUSED);
        dueReasons(x, 6, 5, NOTHING);
        due("7", x.turn(9), REFUSED);
        dueReasons(x, 7, 9, NOTHING);
    }

    // ---- lines and texts

    private static void lines() {
        FerryRounds x = river(1, 2, 3, 4, 20);
        x.join(1, 0);
        x.join(1, 4);
        due("tell(4)", x.tell(4), 9);
        due("the line", line(x), "1-4-1-0-1");
        x.cut(1, 4);
        x.join(0, 4);
        due("describe(4)", x.describe(4), 8);
        due("the line", line(x), "4$20:1+2");
    }

    private static void eachCommand() {
        String[] texts = {"b9", "w6=50", "j6~5", "c6~5", "t3", "u4+3", "u4-3", "b09", "w06=51", "j06~05", "c06~05",
            "t01", "u04+03", "u04-03"};
        Calls[] calls = {x -> x.bank(9), x -> x.weigh(6, 50), x -> x.join(6, 5), x -> x.cut(6, 5), x -> x.turn(3),
            x -> x.rise(4, 3), x -> x.rise(4, -3), x -> x.bank(9), x -> x.weigh(6, 51), x -> x.join(6, 5),
            x -> x.cut(6, 5), x -> x.turn(1), x -> x.rise(4, 3), x -> x.rise(4, -3)};
        FerryRounds x = tree();
        FerryRounds alike = tree();
        for (int command = 0; command < texts.length; command++) {
            String before = shape(x);
            due("read of " + texts[command], read(x, texts[command]), 1);
            calls[command].accept(alike);
            due("what " + texts[command] + " does", shape(x), shape(alike));
            due("it changes", shape(x).equals(before) ? 1 : 0, 0);
            x = renewed(texts, command);
            alike = renewed(texts, command);
        }
    }

    // No object has more calls than are promised.
    private static FerryRounds renewed(String[] texts, int last) {
        FerryRounds x = tree();
        for (int command = 0; command <= last; command++) {
            read(x, texts[command]);
        }
        return x;
    }

    private static void faultPosition() {
        due("the first character with which none can continue", read(tree(), "t0;x0;y"), -103);
        due("a character later", read(tree(), "t0;t0x;y"), -105);
        due("its length if it ends too early", read(tree(), "t0;t0;"), -106);
        due("its length if it ends too early", read(tree(), "t0;w0="), -106);
        due("no fault", read(tree(), "t0;t1"), 2);
    }

    // ---- in doubt

    private static void belowWithItself() {
        for (Made made : rivers()) {
            FerryRounds x = made.get();
            for (int bank = 0; bank < x.account(0); bank++) {
                if (x.bankOf(bank, 3) == x.bankOf(bank, 4)) {
                    due("banks below " + bank, x.bankOf(bank, 7), 1);
                    due("weights below " + bank, x.bankOf(bank, 8), x.bankOf(bank, 0));
                    due("belowAgain(" + bank + ")", x.belowAgain(bank), x.bankOf(bank, 0));
                }
            }
        }
    }

    private static void noRopeToItself() {
        for (Made made : rivers()) {
            int banks = made.get().account(0);
            for (int bank = 0; bank < banks; bank++) {
                FerryRounds x = made.get();
                due("isRope", x.isRope(bank, bank), 0);
                due("wouldDiffer", x.wouldDiffer(bank, bank), NOTHING);
                due("cut", x.cut(bank, bank), REFUSED);
                dueReasons(x, 4, bank, NOTHING);
            }
        }
    }

    private static void otherErrorsLeaveTheReasons() {
        for (String text : new String[] {"t99", "w99=1", "j99~0", "j0~99", "c99~0", "c0~99", "u99+1", "w0=1;t99"}) {
            FerryRounds x = tree();
            x.join(2, 2);
            due("read of " + text, read(x, text), BAD);
            dueReasons(x, 2, 2, NOTHING);
            x = tree();
            due("read of " + text, read(x, text), BAD);
            due("refusal(0)", x.refusal(0), NOTHING);
        }
    }

    private static void wouldTurnsNothing() {
        for (Made made : rivers()) {
            int banks = made.get().account(0);
            String shape = shape(made.get());
            for (int one = 0; one < banks; one++) {
                FerryRounds x = made.get();
                for (int other = 0; other < banks; other++) {
                    x.would(one, other);
                    x.wouldDiffer(one, other);
                }
                due("the shape after would", shape(x), shape);
            }
        }
    }

    private static void partsByTheirRoots() {
        for (Made made : rivers()) {
            FerryRounds x = made.get();
            int last = Integer.MAX_VALUE;
            int seen = 0;
            for (int root = x.ranked(0); root != NONE; root = x.ranked(seen)) {
                due("a root", x.bankOf(root, 1), root);
                due("not heavier than the part before", x.partOf(root, 2) <= last ? 1 : 0, 1);
                last = x.partOf(root, 2);
                seen++;
            }
            due("all parts", seen, x.account(2));
        }
    }

    // What a cut brings is what was told before it.
    private static void wouldDifferIsTrue() {
        for (Made made : rivers()) {
            int banks = made.get().account(0);
            for (int one = 0; one < banks; one++) {
                FerryRounds x = made.get();
                int other = x.bankOf(one, 6);
                if (other >= 0) {
                    int told = x.wouldDiffer(one, other);
                    x.cut(other, one);
                    due("it differs by", Math.abs(x.partOf(one, 2) - x.partOf(other, 2)), told);
                }
            }
        }
    }

    // The middle is told as it is found by cutting the ropes of each bank.
    private static void middleIsTrue() {
        for (Made made : rivers()) {
            int banks = made.get().account(0);
            for (int bank = 0; bank < banks; bank++) {
                FerryRounds x = made.get();
                int middle = NONE;
                int lightest = Integer.MAX_VALUE;
                for (int gone = 0; gone < banks; gone++) {
                    if (x.areJoined(bank, gone) == 1) {
                        int left = heaviestLeft(made.get(), gone, banks);
                        if (left < lightest) {
                            lightest = left;
                            middle = gone;
                        }
                    }
                }
                due("middle(" + bank + ")", x.middle(bank), middle);
            }
        }
    }

    private static int heaviestLeft(FerryRounds x, int gone, int banks) {
        int heaviest = 0;
        for (int next = 0; next < banks; next++) {
            if (x.cut(gone, next) >= 0) {
                heaviest = Math.max(heaviest, x.partOf(next, 2));
            }
        }
        return heaviest;
    }

    // ---- errors

    private static void errorsInTheirOrder() {
        due("bank: BAD, REFUSED", row().bank(100), BAD);
        due("weigh: NONE, BAD", row().weigh(12, 100), NONE);
        due("join: NONE, REFUSED", row().join(12, 12), NONE);
        due("cut: NONE, REFUSED", row().cut(12, 12), NONE);
        due("rise: NONE, BAD", row().rise(12, 100), NONE);
        due("rise: BAD, REFUSED", alone(1).rise(0, -100), BAD);
        due("bankOf: NONE, BAD", row().bankOf(12, 9), NONE);
        due("partOf: NONE, BAD", row().partOf(12, 5), NONE);
        due("way: NONE, NOTHING", alone(1).way(0, 1, 0), NONE);
        due("way: NOTHING, NONE for the place", alone(2).way(0, 1, 5), NOTHING);
        due("meet: NONE, NOTHING", alone(1).meet(0, 1), NONE);
        due("would: NONE, NOTHING", row().would(12, 12), NONE);
        due("wouldDiffer: NONE, NOTHING", row().wouldDiffer(12, 12), NONE);
        due("read: wrong, REFUSED", read(row(), "t0;"), -103);
        due("refusal: BAD, NOTHING", row().refusal(3), BAD);
    }

    private static void readEmptiesTheText() {
        String[] texts = {"", "x", "t0", "t9", "t99", "t0;"};
        int[] answers = {-100, -100, REFUSED, 1, BAD, -103};
        for (int text = 0; text < texts.length; text++) {
            FerryRounds x = row();
            due("read of " + texts[text], read(x, texts[text]), answers[text]);
            due("account(9)", x.account(9), 0);
            due("read of the empty text", x.read(), -100);
        }
    }

    public static void main(String[] args) {
        run("joined: two banks told joined", TermTests::toldJoined);
        run("ropes: at most one between two, never a ring", TermTests::neverARing);
        run("ropes: a bank without them is a part", TermTests::withoutRopes);
        run("rounds: over each rope twice, once each way", TermTests::overEachRopeTwice);
        run("rounds: first and last place", TermTests::firstAndLastPlace);
        run("turning, promise 6", TermTests::turning);
        run("joining, promise 4", TermTests::joining);
        run("cutting, promise 5", TermTests::cutting);
        run("above and below, promises 10 and 15", TermTests::aboveAndBelow);
        run("where banks meet, promise 16", TermTests::whereTheyMeet);
        run("reasons 1 to 7 with their details", TermTests::reasonsInTheirOrder);
        run("lines, promises 22 and 23: the document's own", TermTests::lines);
        run("text, promise 26: each command", TermTests::eachCommand);
        run("text, promise 26: the fault position", TermTests::faultPosition);
        run("in doubt: below with the bank itself", TermTests::belowWithItself);
        run("in doubt: no rope to itself", TermTests::noRopeToItself);
        run("in doubt: other errors leave the reasons", TermTests::otherErrorsLeaveTheReasons);
        run("in doubt: would turns nothing", TermTests::wouldTurnsNothing);
        run("in doubt: parts by their roots, promise 21", TermTests::partsByTheirRoots);
        run("what would be, promise 19: as a cut brings it", TermTests::wouldDifferIsTrue);
        run("middle, promise 20: as cuts bring it", TermTests::middleIsTrue);
        run("errors: the one listed first", TermTests::errorsInTheirOrder);
        run("errors: read empties the text", TermTests::readEmptiesTheText);
        end();
    }
}
