import java.util.ArrayDeque;
import java.util.ArrayList;
import java.util.Collections;
import java.util.Comparator;
import java.util.Deque;
import java.util.List;
import java.util.TreeSet;
import java.util.regex.Matcher;
import java.util.regex.Pattern;

/** A second writing of the document, by its words, with lists and sets: ModelTests compares both. */
final class NaiveRiver {
    private static final int NONE = -1;
    private static final int BAD = -2;
    private static final int REFUSED = -3;
    private static final int NOTHING = -4;
    private static final String COMMAND =
            "(b\\d\\d?|w\\d\\d?=\\d\\d?|[jc]\\d\\d?~\\d\\d?|t\\d\\d?|u\\d\\d?[+-]\\d\\d?)";
    private static final Pattern TEXT = Pattern.compile(COMMAND + "(;" + COMMAND + ")*");

    private static final class State {
        List<Integer> weights = new ArrayList<>();
        TreeSet<String> ropes = new TreeSet<>();
        List<List<Integer>> rounds = new ArrayList<>();
        int joined;
        int cut;
        int turned;

        State copy() {
            State s = new State();
            s.weights.addAll(weights);
            s.ropes.addAll(ropes);
            for (List<Integer> round : rounds) {
                s.rounds.add(new ArrayList<>(round));
            }
            s.joined = joined;
            s.cut = cut;
            s.turned = turned;
            return s;
        }
    }

    private State s = new State();
    private State snapshot;
    private final Deque<State> past = new ArrayDeque<>();
    private String line = "";
    private String text = "";
    private int[] reasons;
    private int command = NOTHING;

    // ---- banks, ropes

    int bank(int weight) {
        State before = s.copy();
        return settle(before, doBank(weight));
    }

    int weigh(int bank, int weight) {
        State before = s.copy();
        return settle(before, doWeigh(bank, weight));
    }

    int join(int one, int other) {
        State before = s.copy();
        return settle(before, doJoin(one, other));
    }

    int cut(int one, int other) {
        State before = s.copy();
        return settle(before, doCut(one, other));
    }

    int turn(int bank) {
        State before = s.copy();
        return settle(before, doTurn(bank));
    }

    int rise(int bank, int by) {
        State before = s.copy();
        return settle(before, doRise(bank, by));
    }

    private int settle(State before, int answer) {
        if (answer >= 0) {
            past.addLast(before);
            if (past.size() > 8) {
                past.removeFirst();
            }
        } else {
            s = before;
        }
        return answer;
    }

    private int refuse(int why, int detail) {
        reasons = new int[] {why, detail, command};
        return REFUSED;
    }

    private int doBank(int weight) {
        if (weight < 0 || weight > 99) {
            return BAD;
        }
        if (s.weights.size() == 12) {
            return refuse(1, 12);
        }
        int bank = s.weights.size();
        s.weights.add(weight);
        List<Integer> round = new ArrayList<>();
        round.add(bank);
        s.rounds.add(round);
        return bank;
    }

    private int doWeigh(int bank, int weight) {
        if (!has(bank)) {
            return NONE;
        }
        if (weight < 0 || weight > 99) {
            return BAD;
        }
        if (s.weights.get(bank) == weight) {
            return refuse(5, weight);
        }
        return s.weights.set(bank, weight);
    }

    private int doJoin(int one, int other) {
        if (!has(one) || !has(other)) {
            return NONE;
        }
        if (one == other) {
            return refuse(2, one);
        }
        if (walk(one).contains(other)) {
            return refuse(3, round(one).get(0));
        }
        turned(other);
        List<Integer> host = round(one);
        List<Integer> guest = round(other);
        int at = host.indexOf(one) + 1;
        host.add(at, one);
        host.addAll(at, guest);
        s.rounds.remove(guest);
        s.ropes.add(rope(one, other));
        s.joined++;
        return new TreeSet<>(host).size();
    }

    private int doCut(int one, int other) {
        if (!has(one) || !has(other)) {
            return NONE;
        }
        if (!s.ropes.contains(rope(one, other))) {
            return refuse(4, one);
        }
        List<Integer> round = round(one);
        int lower = round.indexOf(one) > round.indexOf(other) ? one : other;
        int first = round.indexOf(lower);
        int last = round.lastIndexOf(lower);
        s.rounds.add(new ArrayList<>(round.subList(first, last + 1)));
        round.subList(first, last + 2).clear();
        s.ropes.remove(rope(one, other));
        s.cut++;
        return lower;
    }

    private int doTurn(int bank) {
        if (!has(bank)) {
            return NONE;
        }
        int root = round(bank).get(0);
        if (root == bank) {
            return refuse(7, bank);
        }
        turned(bank);
        s.turned++;
        return root;
    }

    private void turned(int bank) {
        List<Integer> round = round(bank);
        int first = round.indexOf(bank);
        if (first == 0) {
            return;
        }
        List<Integer> next = new ArrayList<>(round.subList(first, round.size()));
        next.addAll(round.subList(1, first + 1));
        s.rounds.set(s.rounds.indexOf(round), next);
    }

    private int doRise(int bank, int by) {
        if (!has(bank)) {
            return NONE;
        }
        if (by < -99 || by > 99) {
            return BAD;
        }
        int changed = 0;
        for (int b : walk(bank)) {
            int after = Math.min(99, Math.max(0, s.weights.get(b) + by));
            if (s.weights.set(b, after) != after) {
                changed++;
            }
        }
        return changed == 0 ? refuse(6, walk(bank).size()) : changed;
    }

    // ---- rounds

    int areJoined(int one, int other) {
        if (!has(one) || !has(other)) {
            return NONE;
        }
        return round(one) == round(other) ? 1 : 0;
    }

    int areJoinedAgain(int one, int other) {
        if (!has(one) || !has(other)) {
            return NONE;
        }
        return walk(one).contains(other) ? 1 : 0;
    }

    int bankOf(int bank, int what) {
        if (!has(bank)) {
            return NONE;
        }
        switch (what) {
            case 0: return s.weights.get(bank);
            case 1: return round(bank).get(0);
            case 2: return depth(bank);
            case 3: return round(bank).indexOf(bank);
            case 4: return round(bank).lastIndexOf(bank);
            case 5: return neighbours(bank).size();
            case 6: return depth(bank) == 0 ? NOTHING : path(bank, round(bank).get(0)).get(1);
            case 7: return below(bank).size();
            case 8: return weight(below(bank));
            default: return BAD;
        }
    }

    int belowAgain(int bank) {
        return has(bank) ? weight(below(bank)) : NONE;
    }

    int inRound(int bank, int place) {
        if (!has(bank) || place < 0 || place >= round(bank).size()) {
            return NONE;
        }
        return round(bank).get(place);
    }

    int partOf(int bank, int what) {
        if (!has(bank)) {
            return NONE;
        }
        switch (what) {
            case 0: return walk(bank).size();
            case 1: return 2 * walk(bank).size() - 1;
            case 2: return weight(walk(bank));
            case 3: return walk(bank).stream().mapToInt(this::depth).max().getAsInt();
            case 4: return round(bank).stream().max((a, b) -> {
                int byWeight = s.weights.get(a) - s.weights.get(b);
                return byWeight != 0 ? byWeight : round(bank).indexOf(b) - round(bank).indexOf(a);
            }).get();
            default: return BAD;
        }
    }

    // ---- two banks

    int isRope(int one, int other) {
        if (!has(one) || !has(other)) {
            return NONE;
        }
        return neighbours(one).contains(other) ? 1 : 0;
    }

    int isBelow(int one, int other) {
        if (!has(one) || !has(other)) {
            return NONE;
        }
        return below(other).contains(one) ? 1 : 0;
    }

    int meet(int one, int other) {
        if (!has(one) || !has(other)) {
            return NONE;
        }
        int best = NOTHING;
        for (int bank = 0; bank < s.weights.size(); bank++) {
            if (below(bank).contains(one) && below(bank).contains(other)
                    && (best < 0 || depth(bank) > depth(best))) {
                best = bank;
            }
        }
        return best;
    }

    int way(int one, int other, int place) {
        if (!has(one) || !has(other)) {
            return NONE;
        }
        List<Integer> path = path(one, other);
        if (path == null) {
            return NOTHING;
        }
        if (place == -1) {
            return path.size() - 1;
        }
        return place < 0 || place >= path.size() ? NONE : path.get(place);
    }

    // ---- what would be, orders

    int would(int one, int other) {
        if (!has(one) || !has(other)) {
            return NONE;
        }
        return walk(one).contains(other) ? NOTHING : round(one).get(0);
    }

    int wouldDiffer(int one, int other) {
        if (!has(one) || !has(other)) {
            return NONE;
        }
        if (!s.ropes.contains(rope(one, other))) {
            return NOTHING;
        }
        State kept = s;
        s = s.copy();
        s.ropes.remove(rope(one, other));
        int differ = Math.abs(weight(walk(one)) - weight(walk(other)));
        s = kept;
        return differ;
    }

    int middle(int bank) {
        if (!has(bank)) {
            return NONE;
        }
        int middle = NONE;
        int best = Integer.MAX_VALUE;
        for (int gone : walk(bank)) {
            State kept = s;
            s = s.copy();
            s.ropes.removeIf(r -> r.startsWith(gone + "/") || r.endsWith("/" + gone));
            int left = 0;
            for (int b = 0; b < s.weights.size(); b++) {
                if (b != gone && path(kept, b, gone) != null) {
                    left = Math.max(left, weight(walk(b)));
                }
            }
            s = kept;
            if (left < best) {
                best = left;
                middle = gone;
            }
        }
        return middle;
    }

    int ranked(int place) {
        List<List<Integer>> order = new ArrayList<>(s.rounds);
        order.sort(Comparator
                .comparingInt((List<Integer> r) -> -weight(new TreeSet<>(r)))
                .thenComparingInt(r -> -new TreeSet<>(r).size())
                .thenComparingInt(r -> r.get(0)));
        return place < 0 || place >= order.size() ? NONE : order.get(place).get(0);
    }

    // ---- lines, texts, accounts

    int describe(int bank) {
        if (!has(bank)) {
            return NONE;
        }
        line = bank + "$" + s.weights.get(bank) + ":" + round(bank).get(0) + "+" + depth(bank);
        return line.length();
    }

    int tell(int bank) {
        if (!has(bank)) {
            return NONE;
        }
        StringBuilder told = new StringBuilder();
        for (int b : round(bank)) {
            told.append(told.length() == 0 ? "" : "-").append(b);
        }
        line = told.toString();
        return line.length();
    }

    int sign(int index) {
        return index < 0 || index >= line.length() ? NONE : line.charAt(index);
    }

    int append(int code) {
        if (code < 32 || code > 126 || text.length() == 70) {
            return BAD;
        }
        text += (char) code;
        return text.length();
    }

    int read() {
        String commands = text;
        text = "";
        for (int end = 1; end <= commands.length(); end++) {
            Matcher matcher = TEXT.matcher(commands.substring(0, end));
            if (!matcher.matches() && !matcher.hitEnd()) {
                return -100 - (end - 1);
            }
        }
        if (!TEXT.matcher(commands).matches()) {
            return -100 - commands.length();
        }
        State before = s.copy();
        String[] each = commands.split(";");
        int answer = each.length;
        for (command = 0; command < each.length && answer >= 0; command++) {
            int got = carryOut(each[command]);
            if (got < 0) {
                answer = got == REFUSED ? REFUSED : BAD;
            }
        }
        command = NOTHING;
        return settle(before, answer);
    }

    private int carryOut(String one) {
        String[] numbers = one.substring(1).split("[=~+-]");
        int a = Integer.parseInt(numbers[0]);
        int b = numbers.length > 1 ? Integer.parseInt(numbers[1]) : 0;
        switch (one.charAt(0)) {
            case 'b': return doBank(a);
            case 'w': return doWeigh(a, b);
            case 'j': return doJoin(a, b);
            case 'c': return doCut(a, b);
            case 't': return doTurn(a);
            default: return doRise(a, one.indexOf('-') >= 0 ? -b : b);
        }
    }

    int refusal(int what) {
        if (what < 0 || what > 2) {
            return BAD;
        }
        return reasons == null ? NOTHING : reasons[what];
    }

    int account(int what) {
        switch (what) {
            case 0: return s.weights.size();
            case 1: return s.ropes.size();
            case 2: return s.rounds.size();
            case 3: return s.weights.stream().mapToInt(w -> w).sum();
            case 4: return s.rounds.stream().mapToInt(List::size).sum();
            case 5: return s.joined;
            case 6: return s.cut;
            case 7: return s.turned;
            case 8: {
                int deepest = 0;
                for (int b = 0; b < s.weights.size(); b++) {
                    deepest = Math.max(deepest, depth(b));
                }
                return deepest;
            }
            case 9: return text.length();
            case 10: return past.size();
            default: return BAD;
        }
    }

    int isWell() {
        return 1;
    }

    int mean() {
        if (s.weights.isEmpty()) {
            return NOTHING;
        }
        int sum = 0;
        for (int b = 0; b < s.weights.size(); b++) {
            sum += depth(b);
        }
        return Float.floatToIntBits((float) sum / (float) s.weights.size());
    }

    // ---- undo and snapshot

    int undo() {
        if (past.isEmpty()) {
            return NOTHING;
        }
        s = past.removeLast();
        return past.size();
    }

    int save() {
        snapshot = s.copy();
        return s.weights.size();
    }

    int restore() {
        if (snapshot == null) {
            return NOTHING;
        }
        s = snapshot.copy();
        past.clear();
        return s.weights.size();
    }

    // ---- helpers

    private boolean has(int bank) {
        return bank >= 0 && bank < s.weights.size();
    }

    private static String rope(int one, int other) {
        return Math.min(one, other) + "/" + Math.max(one, other);
    }

    private TreeSet<Integer> neighbours(int bank) {
        return neighbours(s, bank);
    }

    private static TreeSet<Integer> neighbours(State state, int bank) {
        TreeSet<Integer> found = new TreeSet<>();
        for (int b = 0; b < state.weights.size(); b++) {
            if (state.ropes.contains(rope(bank, b))) {
                found.add(b);
            }
        }
        return found;
    }

    private TreeSet<Integer> walk(int bank) {
        TreeSet<Integer> seen = new TreeSet<>();
        Deque<Integer> open = new ArrayDeque<>();
        open.add(bank);
        while (!open.isEmpty()) {
            int next = open.remove();
            if (seen.add(next)) {
                open.addAll(neighbours(next));
            }
        }
        return seen;
    }

    private List<Integer> round(int bank) {
        for (List<Integer> round : s.rounds) {
            if (round.contains(bank)) {
                return round;
            }
        }
        throw new IllegalStateException("no round");
    }

    private int weight(Iterable<Integer> banks) {
        int sum = 0;
        for (int b : banks) {
            sum += s.weights.get(b);
        }
        return sum;
    }

    private List<Integer> path(int one, int other) {
        return path(s, one, other);
    }

    private static List<Integer> path(State state, int one, int other) {
        List<Integer> path = new ArrayList<>();
        if (!seek(state, one, NONE, other, path)) {
            return null;
        }
        Collections.reverse(path);
        return path;
    }

    private static boolean seek(State state, int at, int from, int goal, List<Integer> path) {
        if (at == goal) {
            path.add(at);
            return true;
        }
        for (int next : neighbours(state, at)) {
            if (next != from && seek(state, next, at, goal, path)) {
                path.add(at);
                return true;
            }
        }
        return false;
    }

    private int depth(int bank) {
        return path(bank, round(bank).get(0)).size() - 1;
    }

    // Those whose way to the root goes over the bank.
    private TreeSet<Integer> below(int bank) {
        TreeSet<Integer> found = new TreeSet<>();
        int root = round(bank).get(0);
        for (int b : walk(bank)) {
            if (path(b, root).contains(bank)) {
                found.add(b);
            }
        }
        return found;
    }
}
