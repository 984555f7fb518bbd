/** Long runs of calls, the same on FerryRounds and on NaiveRiver: every answer has to be the same. */
public final class ModelTests {
    // Nothing is promised of more calls.
    private static final int MOST_CALLS = 512;
    // More than a text or a line takes, and what is asked at the end.
    private static final int LEFT_AT_LEAST = 130;
    private static final int RUNS = 10000;
    private static final int[] ODD = {
        Integer.MIN_VALUE, Integer.MIN_VALUE + 1, -101, -100, -99, -3, -2, -1, 12, 13, 23, 32, 70, 99,
        100, 126, 127, 255, 1 << 20, Integer.MAX_VALUE - 1, Integer.MAX_VALUE};

    private long seed;
    private final FerryRounds real = new FerryRounds();
    private final NaiveRiver naive = new NaiveRiver();
    private final StringBuilder calls = new StringBuilder();
    private int made;
    private final int banks;

    private ModelTests(long run) {
        seed = run * 7919 + 17;
        banks = 2 + (int) (run % 12);
    }

    private int below(int bound) {
        seed = seed * 6364136223846793005L + 1442695040888963407L;
        return (int) ((seed >>> 33) % bound);
    }

    private int bank() {
        return below(25) == 0 ? ODD[below(ODD.length)] : below(banks);
    }

    private int number(int bound) {
        return below(20) == 0 ? ODD[below(ODD.length)] : below(bound);
    }

    private boolean same(String call, int got, int want) {
        made++;
        calls.append(call).append(" = ").append(got).append('\n');
        if (got != want) {
            System.out.println(calls + "due is " + want);
        }
        return got == want;
    }

    private boolean write(String text) {
        for (int i = 0; i < text.length(); i++) {
            int code = text.charAt(i);
            if (!same("append(" + code + ")", real.append(code), naive.append(code))) {
                return false;
            }
        }
        return true;
    }

    private String command() {
        int a = below(banks + (below(10) == 0 ? 20 : 0));
        int b = below(banks + (below(10) == 0 ? 20 : 0));
        String first = below(6) == 0 && a < 10 ? "0" + a : "" + a;
        switch (below(6)) {
            case 0: return "b" + below(100);
            case 1: return "w" + first + "=" + below(100);
            case 2: return "j" + first + "~" + b;
            case 3: return "c" + first + "~" + b;
            case 4: return "t" + first;
            default: return "u" + first + (below(2) == 0 ? "+" : "-") + below(100);
        }
    }

    private boolean text() {
        StringBuilder text = new StringBuilder(command());
        int more = below(4);
        for (int i = 0; i < more; i++) {
            text.append(';').append(command());
        }
        if (below(3) == 0) {
            String signs = "bwjctu;=~+-0159 x";
            int at = below(text.length() + 1);
            char sign = signs.charAt(below(signs.length()));
            if (at == text.length() || below(3) == 0) {
                text.insert(at, sign);
            } else if (below(2) == 0) {
                text.setCharAt(at, sign);
            } else {
                text.setLength(at);
            }
        }
        return write(text.toString()) && same("read()", real.read(), naive.read());
    }

    private boolean line() {
        int got = 0;
        for (int i = 0; got != FerryRounds.NONE; i++) {
            got = real.sign(i);
            made++;
            if (got != naive.sign(i)) {
                return same("sign(" + i + ")", got, naive.sign(i));
            }
        }
        return true;
    }

    // How often each kind of call comes stands in the widths of its cases.
    private boolean change() {
        int a = bank();
        int b = bank();
        int n = number(100);
        switch (below(16)) {
            case 0: return same("bank(" + n + ")", real.bank(n), naive.bank(n));
            case 1: return same("weigh(" + a + ", " + n + ")", real.weigh(a, n), naive.weigh(a, n));
            case 2: case 3: case 4: case 5:
                return same("join(" + a + ", " + b + ")", real.join(a, b), naive.join(a, b));
            case 6: case 7:
                return same("cut(" + a + ", " + b + ")", real.cut(a, b), naive.cut(a, b));
            case 8: case 9: return same("turn(" + a + ")", real.turn(a), naive.turn(a));
            case 10: case 11: {
                int by = below(2) == 0 ? n : below(20) - 10;
                return same("rise(" + a + ", " + by + ")", real.rise(a, by), naive.rise(a, by));
            }
            case 12: return below(3) != 0 || same("undo()", real.undo(), naive.undo());
            case 13: return below(8) != 0 || same("save()", real.save(), naive.save());
            case 14: return below(12) != 0 || same("restore()", real.restore(), naive.restore());
            default: return text();
        }
    }

    private boolean question() {
        int a = bank();
        int b = bank();
        int p = number(13) - 1;
        switch (below(23)) {
            case 0: return same("areJoined(" + a + ", " + b + ")", real.areJoined(a, b), naive.areJoined(a, b));
            case 1: return same("areJoinedAgain(" + a + ", " + b + ")",
                    real.areJoinedAgain(a, b), naive.areJoinedAgain(a, b));
            case 2: case 3: return same("bankOf(" + a + ", " + p + ")", real.bankOf(a, p), naive.bankOf(a, p));
            case 4: return same("belowAgain(" + a + ")", real.belowAgain(a), naive.belowAgain(a));
            case 5: {
                int place = number(24);
                return same("inRound(" + a + ", " + place + ")", real.inRound(a, place), naive.inRound(a, place));
            }
            case 6: return same("partOf(" + a + ", " + p + ")", real.partOf(a, p), naive.partOf(a, p));
            case 7: return same("isRope(" + a + ", " + b + ")", real.isRope(a, b), naive.isRope(a, b));
            case 8: return same("isBelow(" + a + ", " + b + ")", real.isBelow(a, b), naive.isBelow(a, b));
            case 9: case 10: return same("meet(" + a + ", " + b + ")", real.meet(a, b), naive.meet(a, b));
            case 11: case 12: {
                String call = "way(" + a + ", " + b + ", " + p + ")";
                return same(call, real.way(a, b, p), naive.way(a, b, p));
            }
            case 13: return same("would(" + a + ", " + b + ")", real.would(a, b), naive.would(a, b));
            case 14: return same("wouldDiffer(" + a + ", " + b + ")",
                    real.wouldDiffer(a, b), naive.wouldDiffer(a, b));
            case 15: return same("middle(" + a + ")", real.middle(a), naive.middle(a));
            case 16: return same("ranked(" + p + ")", real.ranked(p), naive.ranked(p));
            case 17: return same("describe(" + a + ")", real.describe(a), naive.describe(a)) && line();
            case 18: return same("tell(" + a + ")", real.tell(a), naive.tell(a)) && line();
            case 19: return same("refusal(" + p + ")", real.refusal(p), naive.refusal(p));
            case 20: return same("account(" + p + ")", real.account(p), naive.account(p));
            case 21: return same("isWell()", real.isWell(), naive.isWell());
            default: return same("mean()", real.mean(), naive.mean());
        }
    }

    // So that no run ends with a fault that no call has shown.
    private boolean endsAlike() {
        for (int what = 0; what <= 10; what++) {
            if (!same("account(" + what + ")", real.account(what), naive.account(what))) {
                return false;
            }
        }
        for (int bank = 0; bank < banks && made < MOST_CALLS - 2; bank++) {
            if (!same("bankOf(" + bank + ", 8)", real.bankOf(bank, 8), naive.bankOf(bank, 8))
                    || !same("bankOf(" + bank + ", 4)", real.bankOf(bank, 4), naive.bankOf(bank, 4))) {
                return false;
            }
        }
        return same("isWell()", real.isWell(), naive.isWell());
    }

    private boolean run() {
        for (int i = below(banks) + 1; i > 0; i--) {
            int weight = below(4) == 0 ? below(3) : below(100);
            if (!same("bank(" + weight + ")", real.bank(weight), naive.bank(weight))) {
                return false;
            }
        }
        for (int call = 0; call < MOST_CALLS && made < MOST_CALLS - LEFT_AT_LEAST; call++) {
            if (!(below(5) < 2 ? change() : question())) {
                return false;
            }
        }
        return endsAlike() && made <= MOST_CALLS;
    }

    public static void main(String[] args) {
        int passed = 0;
        int failed = 0;
        for (int run = 0; run < RUNS && failed < 3; run++) {
            ModelTests test = new ModelTests(run);
            boolean ok = false;
            try {
                ok = test.run();
            } catch (RuntimeException e) {
                System.out.println(test.calls + "threw " + e);
            }
            if (ok) {
                passed++;
            } else {
                failed++;
                System.out.println("run " + run + " failed");
            }
        }
        System.out.println(passed + " runs alike, " + failed + " not");
        System.out.println((failed == 0 ? 1 : 0) + " passed, " + (failed == 0 ? 0 : 1) + " failed");
        System.exit(failed == 0 ? 0 : 1);
    }
}
