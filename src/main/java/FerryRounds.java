/** Ferrymen who go round ropes between banks: the document's promises 1 to 33. */
public final class FerryRounds {
    public static final int NONE = -1;
    public static final int BAD = -2;
    public static final int REFUSED = -3;
    public static final int NOTHING = -4;

    private static final int MOST_BANKS = 12;
    private static final int MOST_PLACES = 2 * MOST_BANKS - 1;
    private static final int MOST_WEIGHT = 99;
    private static final int MOST_CHANGES = 8;
    private static final int MOST_TEXT = 70;
    // Each place of the longest round takes two digits and a "-" at most.
    private static final int MOST_LINE = 3 * MOST_PLACES;
    private static final int LOWEST_CODE = 32;
    private static final int HIGHEST_CODE = 126;
    private static final int WRONG_TEXT = -100;

    private static final int FULL = 1;
    private static final int ONE_BANK = 2;
    private static final int ONE_PART = 3;
    private static final int NO_ROPE = 4;
    private static final int ALREADY_SO = 5;
    private static final int NO_WEIGHT_CHANGES = 6;
    private static final int IS_ROOT = 7;

    private final River river;
    private final River snapshot;
    private final Past past;
    private final Row line;
    private final Row text;
    private final Script script;
    private boolean isSaved;
    private int reason;
    private int reasonDetail;
    private int reasonCommand;
    private int commandNow;

    public FerryRounds() {
        river = new River();
        snapshot = new River();
        past = new Past();
        line = new Row(MOST_LINE);
        text = new Row(MOST_TEXT);
        script = new Script();
        commandNow = NOTHING;
    }

    // ---- banks, ropes

    public int bank(int weight) {
        past.note(river);
        return settle(addBank(weight));
    }

    public int weigh(int bank, int weight) {
        past.note(river);
        return settle(setWeight(bank, weight));
    }

    public int join(int one, int other) {
        past.note(river);
        return settle(joinBanks(one, other));
    }

    public int cut(int one, int other) {
        past.note(river);
        return settle(cutRope(one, other));
    }

    public int turn(int bank) {
        past.note(river);
        return settle(turnRound(bank));
    }

    public int rise(int bank, int by) {
        past.note(river);
        return settle(raisePart(bank, by));
    }

    // ---- rounds

    public int areJoined(int one, int other) {
        if (!areThere(one, other)) {
            return NONE;
        }
        return river.isOnePart(one, other) ? 1 : 0;
    }

    public int areJoinedAgain(int one, int other) {
        if (!areThere(one, other)) {
            return NONE;
        }
        return (river.reached(one, 0) & bit(other)) != 0 ? 1 : 0;
    }

    public int bankOf(int bank, int what) {
        if (!river.has(bank)) {
            return NONE;
        }
        switch (what) {
            case 0: return river.weightOf(bank);
            case 1: return river.rootOf(bank);
            case 2: return river.depthOf(bank);
            case 3: return river.roundOf(bank).firstOf(bank);
            case 4: return river.roundOf(bank).lastOf(bank);
            case 5: return Integer.bitCount(river.ropesOf(bank));
            case 6: return river.justAbove(bank);
            case 7: return Integer.bitCount(river.belowOf(bank));
            case 8: return river.weightOfAll(river.belowOf(bank));
            default: return BAD;
        }
    }

    public int belowAgain(int bank) {
        if (!river.has(bank)) {
            return NONE;
        }
        return river.weightOfAll(river.reachedBelow(bank));
    }

    public int inRound(int bank, int place) {
        if (!river.has(bank)) {
            return NONE;
        }
        return river.roundOf(bank).get(place);
    }

    public int partOf(int bank, int what) {
        if (!river.has(bank)) {
            return NONE;
        }
        switch (what) {
            case 0: return Integer.bitCount(river.banksWith(bank));
            case 1: return river.roundOf(bank).length();
            case 2: return river.weightOfAll(river.banksWith(bank));
            case 3: return river.greatestDepth(river.banksWith(bank));
            case 4: return river.heaviestWith(bank);
            default: return BAD;
        }
    }

    // ---- two banks

    public int isRope(int one, int other) {
        if (!areThere(one, other)) {
            return NONE;
        }
        return river.isTied(one, other) ? 1 : 0;
    }

    public int isBelow(int one, int other) {
        if (!areThere(one, other)) {
            return NONE;
        }
        return (river.aboveOf(one) & bit(other)) != 0 ? 1 : 0;
    }

    public int meet(int one, int other) {
        if (!areThere(one, other)) {
            return NONE;
        }
        return river.isOnePart(one, other) ? river.meetingOf(one, other) : NOTHING;
    }

    public int way(int one, int other, int place) {
        if (!areThere(one, other)) {
            return NONE;
        }
        if (!river.isOnePart(one, other)) {
            return NOTHING;
        }
        int highest = river.depthOf(river.meetingOf(one, other));
        int up = river.depthOf(one) - highest;
        int ropes = up + river.depthOf(other) - highest;
        if (place == -1) {
            return ropes;
        }
        if (place < 0 || place > ropes) {
            return NONE;
        }
        return place <= up ? river.stepsAbove(one, place) : river.stepsAbove(other, ropes - place);
    }

    // ---- what would be, orders

    public int would(int one, int other) {
        if (!areThere(one, other)) {
            return NONE;
        }
        return river.isOnePart(one, other) ? NOTHING : river.rootOf(one);
    }

    public int wouldDiffer(int one, int other) {
        if (!areThere(one, other)) {
            return NONE;
        }
        if (!river.isTied(one, other)) {
            return NOTHING;
        }
        int whole = river.weightOfAll(river.banksWith(one));
        int lower = river.weightOfAll(river.belowOf(river.lowerOf(one, other)));
        return Math.abs(whole - 2 * lower);
    }

    public int middle(int bank) {
        if (!river.has(bank)) {
            return NONE;
        }
        return river.middleWith(bank);
    }

    public int ranked(int place) {
        return river.rootRanked(place);
    }

    // ---- lines, texts, accounts

    public int describe(int bank) {
        if (!river.has(bank)) {
            return NONE;
        }
        line.clear();
        line.addDigits(bank);
        line.add('$');
        line.addDigits(river.weightOf(bank));
        line.add(':');
        line.addDigits(river.rootOf(bank));
        line.add('+');
        line.addDigits(river.depthOf(bank));
        return line.length();
    }

    public int tell(int bank) {
        if (!river.has(bank)) {
            return NONE;
        }
        Row round = river.roundOf(bank);
        line.clear();
        for (int place = 0; place < round.length(); place++) {
            if (place > 0) {
                line.add('-');
            }
            line.addDigits(round.get(place));
        }
        return line.length();
    }

    public int sign(int index) {
        return line.get(index);
    }

    public int append(int code) {
        if (code < LOWEST_CODE || code > HIGHEST_CODE || text.length() >= MOST_TEXT) {
            return BAD;
        }
        text.add(code);
        return text.length();
    }

    public int read() {
        int fault = script.faultIn(text);
        text.clear();
        if (fault >= 0) {
            return WRONG_TEXT - fault;
        }
        past.note(river);
        int answer = script.commands();
        for (int command = 0; command < script.commands() && answer >= 0; command++) {
            commandNow = command;
            int got = carryOut(command);
            if (got < 0) {
                answer = got == REFUSED ? REFUSED : BAD;
            }
        }
        commandNow = NOTHING;
        if (answer < 0) {
            past.takeBack(river);
        }
        return settle(answer);
    }

    public int refusal(int what) {
        if (what < 0 || what > 2) {
            return BAD;
        }
        if (reason == 0) {
            return NOTHING;
        }
        switch (what) {
            case 0: return reason;
            case 1: return reasonDetail;
            default: return reasonCommand;
        }
    }

    public int account(int what) {
        switch (what) {
            case 0: return river.banks();
            case 1: return river.ropes();
            case 2: return river.parts();
            case 3: return river.weightOfAll(river.allBanks());
            case 4: return river.places();
            case 5: return river.joinsSoFar();
            case 6: return river.cutsSoFar();
            case 7: return river.turnsSoFar();
            case 8: return river.greatestDepth(river.allBanks());
            case 9: return text.length();
            case 10: return past.count();
            default: return BAD;
        }
    }

    public int isWell() {
        return river.isSound() ? 1 : 0;
    }

    public int mean() {
        int banks = river.banks();
        if (banks <= 0) {
            return NOTHING;
        }
        return bitsOf((float) river.sumOfDepths() / (float) banks);
    }

    // ---- undo and snapshot

    public int undo() {
        return past.goBack(river) ? past.count() : NOTHING;
    }

    public int save() {
        snapshot.copyFrom(river);
        isSaved = true;
        return river.banks();
    }

    public int restore() {
        if (!isSaved) {
            return NOTHING;
        }
        river.copyFrom(snapshot);
        past.forget();
        return river.banks();
    }

    // ---- the commands, alike for calls and texts

    private int addBank(int weight) {
        if (weight < 0 || weight > MOST_WEIGHT) {
            return BAD;
        }
        if (river.banks() >= MOST_BANKS) {
            return refuse(FULL, MOST_BANKS);
        }
        return river.addBankOf(weight);
    }

    private int setWeight(int bank, int weight) {
        if (!river.has(bank)) {
            return NONE;
        }
        if (weight < 0 || weight > MOST_WEIGHT) {
            return BAD;
        }
        int before = river.weightOf(bank);
        if (before == weight) {
            return refuse(ALREADY_SO, weight);
        }
        river.putWeight(bank, weight);
        return before;
    }

    private int joinBanks(int one, int other) {
        if (!areThere(one, other)) {
            return NONE;
        }
        if (one == other) {
            return refuse(ONE_BANK, one);
        }
        if (river.isOnePart(one, other)) {
            return refuse(ONE_PART, river.rootOf(one));
        }
        river.turnTo(other);
        river.tie(one, other);
        return Integer.bitCount(river.banksWith(one));
    }

    private int cutRope(int one, int other) {
        if (!areThere(one, other)) {
            return NONE;
        }
        if (!river.isTied(one, other)) {
            return refuse(NO_ROPE, one);
        }
        int lower = river.lowerOf(one, other);
        river.untie(lower, lower == one ? other : one);
        return lower;
    }

    private int turnRound(int bank) {
        if (!river.has(bank)) {
            return NONE;
        }
        int before = river.rootOf(bank);
        if (before == bank) {
            return refuse(IS_ROOT, bank);
        }
        river.turnTo(bank);
        river.countTurn();
        return before;
    }

    private int raisePart(int bank, int by) {
        if (!river.has(bank)) {
            return NONE;
        }
        if (by < -MOST_WEIGHT || by > MOST_WEIGHT) {
            return BAD;
        }
        int part = river.banksWith(bank);
        int changed = river.raiseAll(part, by);
        return changed > 0 ? changed : refuse(NO_WEIGHT_CHANGES, Integer.bitCount(part));
    }

    private int carryOut(int command) {
        int first = script.firstOf(command);
        int second = script.secondOf(command);
        switch (script.kindOf(command)) {
            case 'b': return addBank(first);
            case 'w': return setWeight(first, second);
            case 'j': return joinBanks(first, second);
            case 'c': return cutRope(first, second);
            case 't': return turnRound(first);
            case 'u': return raisePart(first, second);
            default: return BAD;
        }
    }

    private int refuse(int why, int detail) {
        reason = why;
        reasonDetail = detail;
        reasonCommand = commandNow;
        return REFUSED;
    }

    // Whatever succeeds answers 0 at least, and is a change that can be undone.
    private int settle(int answer) {
        if (answer >= 0) {
            past.confirm();
        }
        return answer;
    }

    private boolean areThere(int one, int other) {
        return river.has(one) && river.has(other);
    }

    // ---- sets of banks, and bits

    private static int bit(int bank) {
        return bank < 0 || bank >= MOST_BANKS ? 0 : 1 << bank;
    }

    // The lowest bank of a set that is not empty.
    private static int lowestIn(int set) {
        return Integer.bitCount((set & -set) - 1);
    }

    // The library's own way to a float's bits is not at hand.
    private static int bitsOf(float value) {
        if (!(value > 0f)) {
            return 0;
        }
        float rest = value;
        int exponent = 127;
        for (int step = 0; step < 127 && rest >= 2f; step++) {
            rest = rest / 2f;
            exponent++;
        }
        for (int step = 0; step < 126 && rest < 1f; step++) {
            rest = rest * 2f;
            exponent--;
        }
        return (exponent << 23) | (int) ((rest - 1f) * 8388608f);
    }

    /** A row of numbers that has room for so many, and looks at each index. */
    private static final class Row {
        private final int[] numbers;
        private int length;

        Row(int room) {
            numbers = new int[room < 0 ? 0 : room];
        }

        int length() {
            return length;
        }

        int get(int place) {
            return place < 0 || place >= length || place >= numbers.length ? NONE : numbers[place];
        }

        void put(int place, int number) {
            if (place >= 0 && place < length && place < numbers.length) {
                numbers[place] = number;
            }
        }

        void add(int number) {
            if (length >= 0 && length < numbers.length) {
                numbers[length] = number;
                length++;
            }
        }

        // A number from 0 to 99, as the codes of its digits.
        void addDigits(int number) {
            if (number >= 10) {
                add('0' + number / 10);
            }
            add('0' + number % 10);
        }

        void addPlaces(Row other, int from, int to) {
            if (other == null) {
                return;
            }
            for (int place = from; place <= to && place < MOST_PLACES; place++) {
                add(other.get(place));
            }
        }

        void dropPlaces(int from, int to) {
            int dropped = to - from + 1;
            for (int place = to + 1; place < length; place++) {
                put(place - dropped, get(place));
            }
            shorten(length - dropped);
        }

        void shorten(int most) {
            if (most >= 0 && most < length) {
                length = most;
            }
        }

        void clear() {
            length = 0;
        }

        void copyFrom(Row other) {
            if (other == null) {
                return;
            }
            length = 0;
            for (int place = 0; place < other.length; place++) {
                add(other.get(place));
            }
        }

        int firstOf(int number) {
            for (int place = 0; place < length && place < numbers.length; place++) {
                if (numbers[place] == number) {
                    return place;
                }
            }
            return NONE;
        }

        int lastOf(int number) {
            for (int place = length - 1; place >= 0; place--) {
                if (get(place) == number) {
                    return place;
                }
            }
            return NONE;
        }

        int setOfAll() {
            return setOf(0, length - 1);
        }

        // The banks that stand from one place to another, as a set.
        int setOf(int from, int to) {
            int set = 0;
            for (int place = from; place <= to && place < MOST_PLACES; place++) {
                set |= bit(get(place));
            }
            return set;
        }
    }

    /** All that changes can change: the banks, the ropes, the rounds and what was counted. */
    private static final class River {
        private final Row weights;
        private final Row ropes;
        // The round of a part stands at its root; the rows of other banks are empty.
        private final Row[] rounds;
        private final Row noRound;
        private int joins;
        private int cuts;
        private int turns;

        River() {
            weights = new Row(MOST_BANKS);
            ropes = new Row(MOST_BANKS);
            rounds = new Row[MOST_BANKS];
            noRound = new Row(0);
            for (int root = 0; root < rounds.length; root++) {
                rounds[root] = new Row(MOST_PLACES);
            }
        }

        void copyFrom(River other) {
            if (other == null) {
                return;
            }
            weights.copyFrom(other.weights);
            ropes.copyFrom(other.ropes);
            for (int root = 0; root < MOST_BANKS; root++) {
                roundAt(root).copyFrom(other.roundAt(root));
            }
            joins = other.joins;
            cuts = other.cuts;
            turns = other.turns;
        }

        // ---- banks and ropes

        int banks() {
            return weights.length();
        }

        boolean has(int bank) {
            return bank >= 0 && bank < weights.length();
        }

        int allBanks() {
            return (1 << weights.length()) - 1;
        }

        int weightOf(int bank) {
            return weights.get(bank);
        }

        int weightOfAll(int set) {
            int sum = 0;
            for (int bank = 0; bank < weights.length(); bank++) {
                if ((set & bit(bank)) != 0) {
                    sum += weights.get(bank);
                }
            }
            return sum;
        }

        int ropesOf(int bank) {
            return has(bank) ? ropes.get(bank) : 0;
        }

        boolean isTied(int one, int other) {
            return (ropesOf(one) & bit(other)) != 0;
        }

        int ropes() {
            int ends = 0;
            for (int bank = 0; bank < ropes.length(); bank++) {
                ends += Integer.bitCount(ropes.get(bank));
            }
            return ends / 2;
        }

        int joinsSoFar() {
            return joins;
        }

        int cutsSoFar() {
            return cuts;
        }

        int turnsSoFar() {
            return turns;
        }

        // ---- what changes do

        int addBankOf(int weight) {
            int bank = weights.length();
            weights.add(weight);
            ropes.add(0);
            roundAt(bank).add(bank);
            return bank;
        }

        void putWeight(int bank, int weight) {
            weights.put(bank, weight);
        }

        // Answers how many weights changed.
        int raiseAll(int set, int by) {
            int changed = 0;
            for (int bank = 0; bank < weights.length(); bank++) {
                int before = weights.get(bank);
                int after = Math.max(0, Math.min(MOST_WEIGHT, before + by));
                if ((set & bit(bank)) != 0 && after != before) {
                    weights.put(bank, after);
                    changed++;
                }
            }
            return changed;
        }

        void turnTo(int bank) {
            Row old = roundOf(bank);
            Row turned = roundAt(bank);
            int first = old.firstOf(bank);
            if (first <= 0) {
                return;
            }
            turned.addPlaces(old, first, old.length() - 1);
            turned.addPlaces(old, 1, first);
            old.clear();
        }

        void countTurn() {
            turns++;
        }

        // The other one must be the root of its part already. Its row takes what comes
        // behind it, so that no third row is needed.
        void tie(int one, int other) {
            Row guest = roundAt(other);
            Row host = roundOf(one);
            int first = host.firstOf(one);
            guest.add(one);
            guest.addPlaces(host, first + 1, host.length() - 1);
            host.shorten(first + 1);
            host.addPlaces(guest, 0, guest.length() - 1);
            guest.clear();
            ropes.put(one, ropesOf(one) | bit(other));
            ropes.put(other, ropesOf(other) | bit(one));
            joins++;
        }

        void untie(int lower, int upper) {
            Row whole = roundOf(lower);
            int first = whole.firstOf(lower);
            int last = whole.lastOf(lower);
            roundAt(lower).addPlaces(whole, first, last);
            whole.dropPlaces(first, last + 1);
            ropes.put(lower, ropesOf(lower) & ~bit(upper));
            ropes.put(upper, ropesOf(upper) & ~bit(lower));
            cuts++;
        }

        // ---- by the rounds

        private Row roundAt(int root) {
            if (root < 0 || root >= rounds.length) {
                return noRound;
            }
            Row round = rounds[root];
            return round == null ? noRound : round;
        }

        int rootOf(int bank) {
            for (int root = 0; root < MOST_BANKS; root++) {
                if (roundAt(root).firstOf(bank) >= 0) {
                    return root;
                }
            }
            return NONE;
        }

        Row roundOf(int bank) {
            return roundAt(rootOf(bank));
        }

        boolean isRoot(int bank) {
            return roundAt(bank).length() > 0;
        }

        int parts() {
            int count = 0;
            for (int root = 0; root < MOST_BANKS; root++) {
                count += isRoot(root) ? 1 : 0;
            }
            return count;
        }

        int places() {
            int count = 0;
            for (int root = 0; root < MOST_BANKS; root++) {
                count += roundAt(root).length();
            }
            return count;
        }

        int banksWith(int bank) {
            return roundOf(bank).setOfAll();
        }

        boolean isOnePart(int one, int other) {
            return roundOf(one).firstOf(other) >= 0;
        }

        // The banks that the bank is below: each stands not behind its first place,
        // and not ahead of its last one.
        int aboveOf(int bank) {
            Row round = roundOf(bank);
            int early = round.setOf(0, round.firstOf(bank));
            int late = round.setOf(round.lastOf(bank), round.length() - 1);
            return early & late;
        }

        // What stands between the bank's first and last place stands nowhere else.
        int belowOf(int bank) {
            Row round = roundOf(bank);
            return round.setOf(round.firstOf(bank), round.lastOf(bank));
        }

        int depthOf(int bank) {
            return Integer.bitCount(aboveOf(bank)) - 1;
        }

        int justAbove(int bank) {
            Row round = roundOf(bank);
            int first = round.firstOf(bank);
            return first <= 0 ? NOTHING : round.get(first - 1);
        }

        int stepsAbove(int bank, int steps) {
            int there = bank;
            for (int step = 0; step < steps; step++) {
                there = justAbove(there);
            }
            return there;
        }

        int greatestDepth(int set) {
            int greatest = 0;
            for (int bank = 0; bank < weights.length(); bank++) {
                if ((set & bit(bank)) != 0) {
                    greatest = Math.max(greatest, depthOf(bank));
                }
            }
            return greatest;
        }

        int sumOfDepths() {
            int sum = 0;
            for (int bank = 0; bank < weights.length(); bank++) {
                sum += depthOf(bank);
            }
            return sum;
        }

        int heaviestWith(int bank) {
            Row round = roundOf(bank);
            int heaviest = round.get(0);
            for (int place = 1; place < round.length(); place++) {
                if (weightOf(round.get(place)) > weightOf(heaviest)) {
                    heaviest = round.get(place);
                }
            }
            return heaviest;
        }

        int meetingOf(int one, int other) {
            int common = aboveOf(one) & aboveOf(other);
            int deepest = NONE;
            for (int bank = 0; bank < weights.length(); bank++) {
                if ((common & bit(bank)) != 0 && (deepest < 0 || depthOf(bank) > depthOf(deepest))) {
                    deepest = bank;
                }
            }
            return deepest;
        }

        int lowerOf(int one, int other) {
            Row round = roundOf(one);
            return round.firstOf(one) > round.firstOf(other) ? one : other;
        }

        // ---- by the ropes

        // The banks to which ropes lead from a bank, without those that are barred.
        int reached(int bank, int barred) {
            int seen = bit(bank);
            int open = seen;
            for (int step = 0; step < MOST_BANKS && open != 0; step++) {
                int next = lowestIn(open);
                int fresh = ropesOf(next) & ~seen & ~barred;
                seen |= fresh;
                open = (open | fresh) & ~bit(next);
            }
            return seen;
        }

        // What the root reaches without the bank is not below it.
        int reachedBelow(int bank) {
            int root = rootOf(bank);
            return reached(bank, root == bank ? 0 : reached(root, bit(bank)));
        }

        int heaviestLeftWithout(int bank) {
            int heaviest = 0;
            for (int next = 0; next < weights.length(); next++) {
                if (isTied(bank, next)) {
                    heaviest = Math.max(heaviest, weightOfAll(reached(next, bit(bank))));
                }
            }
            return heaviest;
        }

        int middleWith(int bank) {
            int part = banksWith(bank);
            int middle = NONE;
            int lightest = 0;
            for (int gone = 0; gone < weights.length(); gone++) {
                if ((part & bit(gone)) != 0) {
                    int left = heaviestLeftWithout(gone);
                    if (middle < 0 || left < lightest) {
                        middle = gone;
                        lightest = left;
                    }
                }
            }
            return middle;
        }

        // ---- over all parts

        int rootRanked(int place) {
            for (int root = 0; root < MOST_BANKS; root++) {
                if (isRoot(root) && partsAheadOf(root) == place) {
                    return root;
                }
            }
            return NONE;
        }

        private int partsAheadOf(int root) {
            int count = 0;
            for (int other = 0; other < MOST_BANKS; other++) {
                if (other != root && isRoot(other) && ranksAhead(other, root)) {
                    count++;
                }
            }
            return count;
        }

        private boolean ranksAhead(int root, int other) {
            int weight = weightOfAll(roundAt(root).setOfAll());
            int otherWeight = weightOfAll(roundAt(other).setOfAll());
            if (weight != otherWeight) {
                return weight > otherWeight;
            }
            int places = roundAt(root).length();
            int otherPlaces = roundAt(other).length();
            return places != otherPlaces ? places > otherPlaces : root < other;
        }

        boolean isSound() {
            for (int bank = 0; bank < weights.length(); bank++) {
                if (banksWith(bank) != reached(bank, 0)
                        || belowOf(bank) != reachedBelow(bank)
                        || !leavesOverEachRope(bank)) {
                    return false;
                }
            }
            return true;
        }

        // Over each rope of each bank once: so each rope is gone over twice, once each way.
        private boolean leavesOverEachRope(int bank) {
            Row round = roundOf(bank);
            int over = 0;
            int times = 0;
            for (int place = 0; place + 1 < round.length(); place++) {
                if (round.get(place) == bank) {
                    over |= bit(round.get(place + 1));
                    times++;
                }
            }
            return over == ropesOf(bank) && times == Integer.bitCount(over);
        }
    }

    /** The states before the changes that can be undone, and the one before a call that may fail. */
    private static final class Past {
        private static final int STATES = MOST_CHANGES + 1;

        private final River[] states;
        private int next;
        private int count;

        Past() {
            states = new River[STATES];
            for (int state = 0; state < states.length; state++) {
                states[state] = new River();
            }
        }

        int count() {
            return count;
        }

        void note(River now) {
            if (next < 0 || next >= states.length) {
                return;
            }
            River spare = states[next];
            if (spare != null) {
                spare.copyFrom(now);
            }
        }

        void takeBack(River now) {
            if (now != null && next >= 0 && next < states.length) {
                now.copyFrom(states[next]);
            }
        }

        void confirm() {
            next = (next + 1) % STATES;
            count = Math.min(MOST_CHANGES, count + 1);
        }

        boolean goBack(River now) {
            if (count <= 0) {
                return false;
            }
            count--;
            next = (next + STATES - 1) % STATES;
            takeBack(now);
            return true;
        }

        void forget() {
            count = 0;
        }
    }

    /** The commands of a text. */
    private static final class Script {
        private final Row kinds;
        private final Row firsts;
        private final Row seconds;
        private int at;
        private int number;

        Script() {
            kinds = new Row(MOST_TEXT);
            firsts = new Row(MOST_TEXT);
            seconds = new Row(MOST_TEXT);
        }

        int commands() {
            return kinds.length();
        }

        int kindOf(int command) {
            return kinds.get(command);
        }

        int firstOf(int command) {
            return firsts.get(command);
        }

        int secondOf(int command) {
            return seconds.get(command);
        }

        // Takes the commands of a text; answers its fault position, or NONE if it has no fault.
        int faultIn(Row text) {
            kinds.clear();
            firsts.clear();
            seconds.clear();
            at = 0;
            if (text == null) {
                return at;
            }
            for (int step = 0; step < MOST_TEXT && takeCommand(text); step++) {
                if (at == text.length()) {
                    return NONE;
                }
                if (text.get(at) != ';') {
                    return at;
                }
                at++;
            }
            return at;
        }

        private boolean takeCommand(Row text) {
            int kind = text.get(at);
            if (!isKind(kind)) {
                return false;
            }
            at++;
            if (!takeNumber(text)) {
                return false;
            }
            int first = number;
            int second = 0;
            if (kind != 'b' && kind != 't') {
                int link = text.get(at);
                if (!fits(kind, link)) {
                    return false;
                }
                at++;
                if (!takeNumber(text)) {
                    return false;
                }
                second = link == '-' ? -number : number;
            }
            kinds.add(kind);
            firsts.add(first);
            seconds.add(second);
            return true;
        }

        private boolean takeNumber(Row text) {
            if (!isDigit(text.get(at))) {
                return false;
            }
            number = text.get(at) - '0';
            at++;
            if (isDigit(text.get(at))) {
                number = 10 * number + text.get(at) - '0';
                at++;
            }
            return true;
        }

        private static boolean isKind(int code) {
            return code == 'b' || code == 'w' || code == 'j' || code == 'c' || code == 't' || code == 'u';
        }

        private static boolean fits(int kind, int link) {
            switch (kind) {
                case 'w': return link == '=';
                case 'u': return link == '+' || link == '-';
                default: return link == '~';
            }
        }

        private static boolean isDigit(int code) {
            return code >= '0' && code <= '9';
        }
    }
}
