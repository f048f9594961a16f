import java.util.ArrayList;
import java.util.Arrays;
import java.util.HashMap;
import java.util.HashSet;
import java.util.List;
import java.util.Map;
import java.util.Random;
import java.util.Set;

// Compares VotingSuite with a second reading of the document, which follows its words by trying out everything:
// all ways, all orders of couples, all chains, all ballots that exchanges lead to. The seeds are fixed.
public final class ReferenceTest {
    private static final int BAD = -1000, FULL = -1001, NONE = -1002;
    private static final List<List<Integer>> ALL_ORDERS = new ArrayList<>();
    private static int wrong = 0;
    private static int checked = 0;

    public static void main(String[] args) {
        listOrders(new ArrayList<>());
        everyPairOfBallots();
        randomElections();
        gains();
        swapsByExchanges();
        randomCalls();
        System.out.println(checked + " answers compared, " + wrong + " differ");
        if (wrong != 0) {
            System.exit(1);
        }
    }

    // ---- what is compared

    private static void everyPairOfBallots() {
        for (List<Integer> second : ALL_ORDERS) {
            compareAll(election(List.of(0, 1, 2, 3, 4), second));
            compareAll(election(second));
        }
        compareAll(new ArrayList<>());
    }

    private static void randomElections() {
        Random random = new Random(20261115);
        for (int n = 0; n < 3000; n++) {
            compareAll(randomElection(random, n % 4));
        }
    }

    private static void gains() {
        Random random = new Random(4711);
        for (int n = 0; n < 500; n++) {
            List<List<Integer>> e = randomElection(random, n % 4);
            VotingSuite x = suite(e);
            int i = random.nextInt(e.size());
            for (int rule = 0; rule <= 14; rule++) {
                due(e, "gain(" + rule + ", " + i + ")", x.gain(rule, i), gain(e, rule, i));
            }
            for (int k = 0; k < e.size(); k++) {
                due(e, "order(" + k + ") after gain", x.order(k), code(e.get(k)));
            }
            due(e, "margin(0, 1) after gain", x.margin(0, 1), margin(e, 0, 1));
        }
    }

    private static void swapsByExchanges() {
        Random random = new Random(99);
        for (int n = 0; n < 40; n++) {
            List<List<Integer>> e = new ArrayList<>();
            for (int k = 0; k < 1 + n % 2; k++) {
                e.add(ALL_ORDERS.get(random.nextInt(120)));
            }
            for (int c = 0; c < 5; c++) {
                due(e, "swaps(" + c + ") by exchanges", suite(e).swaps(c), swapsBySearch(e, c));
            }
        }
    }

    // Calls of every kind on one object, wrong arguments among them, so that answers after changes are compared, too.
    private static void randomCalls() {
        Random random = new Random(815);
        for (int run = 0; run < 60; run++) {
            VotingSuite x = new VotingSuite();
            List<List<Integer>> e = new ArrayList<>();
            for (int call = 0; call < 512; call++) {
                randomCall(random, x, e);
            }
        }
    }

    private static void randomCall(Random random, VotingSuite x, List<List<Integer>> e) {
        int a = random.nextInt(7) - 1, b = random.nextInt(7) - 1;
        int i = random.nextInt(12) - 1;
        int rule = random.nextInt(19) - 1, other = random.nextInt(19) - 1;
        switch (random.nextInt(15)) {
            case 0: case 1: {
                int order = random.nextInt(4) == 0 ? random.nextInt(3400) - 100 : code(ALL_ORDERS.get(random.nextInt(120)));
                int want = e.size() == 9 ? FULL : isOrder(order) ? e.size() + 1 : BAD;
                List<List<Integer>> before = new ArrayList<>(e);
                if (want > 0) {
                    e.add(decode(order));
                }
                due(before, "ballot(" + order + ")", x.ballot(order), want);
                break;
            }
            case 2: {
                boolean there = i >= 0 && i < e.size();
                List<List<Integer>> before = new ArrayList<>(e);
                if (there) {
                    e.remove(i);
                }
                due(before, "drop(" + i + ")", x.drop(i), there ? e.size() : BAD);
                break;
            }
            case 3: due(e, "order(" + i + ")", x.order(i), i >= 0 && i < e.size() ? code(e.get(i)) : BAD); break;
            case 4: due(e, "margin(" + a + ", " + b + ")", x.margin(a, b), in(a) && in(b) ? margin(e, a, b) : 0); break;
            case 5: case 6: due(e, "winners(" + rule + ")", x.winners(rule), isRule(rule, 16) ? winners(e, rule) : BAD); break;
            case 7: due(e, "score(" + rule + ", " + a + ")", x.score(rule, a), isRule(rule, 5) && in(a) ? score(e, rule, a) : BAD); break;
            case 8: due(e, "strength(" + a + ", " + b + ")", x.strength(a, b), in(a) && in(b) && a != b ? strength(e, a, b) : 0); break;
            case 9: due(e, "swaps(" + a + ")", x.swaps(a), in(a) ? swaps(e, a) : BAD); break;
            case 10: due(e, "removals(" + a + ")", x.removals(a), in(a) ? removals(e, a) : BAD); break;
            case 11: due(e, "leader()", x.leader(), leader(e)); break;
            case 12: {
                boolean same = isRule(rule, 16) && isRule(other, 16) && winners(e, rule) == winners(e, other);
                due(e, "agree(" + rule + ", " + other + ")", x.agree(rule, other) ? 1 : 0, same ? 1 : 0);
                break;
            }
            case 13: {
                boolean fine = isRule(rule, 14) && i >= 0 && i < e.size();
                due(e, "gain(" + rule + ", " + i + ")", x.gain(rule, i), fine ? gain(e, rule, i) : BAD);
                break;
            }
            default: due(e, "ballots()", x.ballots(), e.size()); break;
        }
    }

    private static void compareAll(List<List<Integer>> e) {
        VotingSuite x = suite(e);
        for (int rule = 0; rule <= 16; rule++) {
            due(e, "winners(" + rule + ")", x.winners(rule), winners(e, rule));
        }
        for (int a = 0; a < 5; a++) {
            for (int rule = 0; rule <= 5; rule++) {
                due(e, "score(" + rule + ", " + a + ")", x.score(rule, a), score(e, rule, a));
            }
            due(e, "swaps(" + a + ")", x.swaps(a), swaps(e, a));
            due(e, "removals(" + a + ")", x.removals(a), removals(e, a));
            for (int b = 0; b < 5; b++) {
                due(e, "margin(" + a + ", " + b + ")", x.margin(a, b), margin(e, a, b));
                due(e, "strength(" + a + ", " + b + ")", x.strength(a, b), a == b ? 0 : strength(e, a, b));
            }
        }
        due(e, "leader()", x.leader(), leader(e));
    }

    private static void due(List<List<Integer>> e, String call, long got, long want) {
        checked++;
        if (got != want) {
            wrong++;
            if (wrong <= 20) {
                System.out.println(e + ": " + call + " answered " + got + ", due is " + want);
            }
        }
    }

    // ---- elections

    @SafeVarargs
    private static List<List<Integer>> election(List<Integer>... ballots) {
        return new ArrayList<>(List.of(ballots));
    }

    // Kind 0: any ballots; 1: few different ones; 2: shifts of one order, so that there are cycles; 3: near one order.
    private static List<List<Integer>> randomElection(Random random, int kind) {
        int n = 1 + random.nextInt(9);
        List<List<Integer>> e = new ArrayList<>();
        List<Integer> base = ALL_ORDERS.get(random.nextInt(120));
        for (int i = 0; i < n; i++) {
            List<Integer> ballot = new ArrayList<>(ALL_ORDERS.get(random.nextInt(120)));
            if (kind == 1 && i >= 2) {
                ballot = new ArrayList<>(e.get(random.nextInt(2)));
            } else if (kind >= 2) {
                int shift = kind == 2 ? random.nextInt(5) : 0;
                for (int p = 0; p < 5; p++) {
                    ballot.set(p, base.get((p + shift) % 5));
                }
                for (int k = random.nextInt(3); k > 0; k--) {
                    int p = random.nextInt(4);
                    ballot.set(p, ballot.set(p + 1, ballot.get(p)));
                }
            }
            e.add(ballot);
        }
        return e;
    }

    private static VotingSuite suite(List<List<Integer>> e) {
        VotingSuite x = new VotingSuite();
        for (List<Integer> ballot : e) {
            x.ballot(code(ballot));
        }
        return x;
    }

    private static void listOrders(List<Integer> begun) {
        if (begun.size() == 5) {
            ALL_ORDERS.add(List.copyOf(begun));
            return;
        }
        for (int c = 0; c < 5; c++) {
            if (!begun.contains(c)) {
                begun.add(c);
                listOrders(begun);
                begun.remove(begun.size() - 1);
            }
        }
    }

    private static int code(List<Integer> ballot) {
        int n = 0;
        for (int c : ballot) {
            n = n * 5 + c;
        }
        return n;
    }

    private static List<Integer> decode(int order) {
        List<Integer> ballot = new ArrayList<>();
        for (int power = 625; power > 0; power /= 5) {
            ballot.add(order / power % 5);
        }
        return ballot;
    }

    private static boolean isOrder(int order) {
        return order >= 0 && order <= 3124 && ALL_ORDERS.contains(decode(order));
    }

    private static boolean in(int c) {
        return c >= 0 && c <= 4;
    }

    private static boolean isRule(int rule, int last) {
        return rule >= 0 && rule <= last;
    }

    // ---- the document, read a second time

    private static boolean prefers(List<Integer> ballot, int a, int b) {
        return ballot.indexOf(a) < ballot.indexOf(b);
    }

    private static int margin(List<List<Integer>> e, int a, int b) {
        int m = 0;
        for (List<Integer> ballot : e) {
            m += prefers(ballot, a, b) ? 1 : 0;
            m -= prefers(ballot, b, a) ? 1 : 0;
        }
        return m;
    }

    private static boolean beats(List<List<Integer>> e, int a, int b) {
        return margin(e, a, b) > 0;
    }

    private static int leader(List<List<Integer>> e) {
        for (int a = 0; a < 5; a++) {
            int victories = 0;
            for (int b = 0; b < 5; b++) {
                victories += beats(e, a, b) ? 1 : 0;
            }
            if (victories == 4) {
                return a;
            }
        }
        return NONE;
    }

    private static List<Integer> members(int set) {
        List<Integer> members = new ArrayList<>();
        for (int c = 0; c < 5; c++) {
            if ((set & (1 << c)) != 0) {
                members.add(c);
            }
        }
        return members;
    }

    private static int among(List<List<Integer>> e, int kind, int c, List<Integer> there) {
        int n = 0;
        for (List<Integer> ballot : e) {
            List<Integer> shown = new ArrayList<>(ballot);
            shown.retainAll(there);
            int last = shown.size() - 1;
            n += kind == 0 ? (shown.get(0) == c ? 1 : 0)
                : kind == 1 ? (shown.get(last) == c ? 1 : 0)
                : last - shown.indexOf(c);
        }
        return n;
    }

    private static int score(List<List<Integer>> e, int rule, int c) {
        List<Integer> all = members(31);
        switch (rule) {
            case 0: return among(e, 0, c, all);
            case 1: return -among(e, 1, c, all);
            case 2: return among(e, 2, c, all);
            case 3: {
                int s = 0;
                for (int d = 0; d < 5; d++) {
                    s += d == c ? 0 : 1 + Integer.signum(margin(e, c, d));
                }
                return s;
            }
            case 4: {
                int least = Integer.MAX_VALUE;
                for (int d = 0; d < 5; d++) {
                    least = d == c ? least : Math.min(least, margin(e, c, d));
                }
                return least;
            }
            default: {
                for (int k = 1; k <= 5; k++) {
                    for (int d = 0; d < 5; d++) {
                        if (within(e, d, k) > e.size() / 2.0) {
                            return within(e, c, k);
                        }
                    }
                }
                return within(e, c, 5);
            }
        }
    }

    private static int within(List<List<Integer>> e, int c, int k) {
        int n = 0;
        for (List<Integer> ballot : e) {
            n += ballot.subList(0, k).contains(c) ? 1 : 0;
        }
        return n;
    }

    private static int winners(List<List<Integer>> e, int rule) {
        if (rule <= 5) {
            return bestBy(e, rule);
        }
        if (rule <= 8) {
            return survivors(e, rule, members(31));
        }
        if (rule == 10) {
            return new Couples(e).winners();
        }
        if (rule == 11) {
            return smallestDominating(e);
        }
        if (rule == 14) {
            return chainFronts(e, new ArrayList<>());
        }
        if (rule >= 15) {
            return fewest(e, rule);
        }
        int set = 0;
        for (int a = 0; a < 5; a++) {
            boolean wins = true;
            for (int b = 0; b < 5; b++) {
                wins &= a == b || !isBarred(e, rule, a, b);
            }
            set |= wins ? 1 << a : 0;
        }
        return set;
    }

    private static boolean isBarred(List<List<Integer>> e, int rule, int a, int b) {
        if (rule == 9) {
            return strength(e, a, b) < strength(e, b, a);
        }
        if (rule == 12) {
            return strength(e, b, a) > 0 && strength(e, a, b) == 0;
        }
        boolean covers = beats(e, b, a);
        for (int d = 0; d < 5; d++) {
            covers &= !beats(e, a, d) || beats(e, b, d);
        }
        return covers;
    }

    private static int bestBy(List<List<Integer>> e, int rule) {
        int best = Integer.MIN_VALUE;
        for (int c = 0; c < 5; c++) {
            best = Math.max(best, score(e, rule, c));
        }
        int set = 0;
        for (int c = 0; c < 5; c++) {
            set |= score(e, rule, c) == best ? 1 << c : 0;
        }
        return set;
    }

    private static int survivors(List<List<Integer>> e, int rule, List<Integer> there) {
        if (there.size() == 1) {
            return 1 << there.get(0);
        }
        int worst = rule == 7 ? Integer.MIN_VALUE : Integer.MAX_VALUE;
        for (int c : there) {
            int n = among(e, rule - 6, c, there);
            worst = rule == 7 ? Math.max(worst, n) : Math.min(worst, n);
        }
        int set = 0;
        for (int c : there) {
            if (among(e, rule - 6, c, there) == worst) {
                List<Integer> rest = new ArrayList<>(there);
                rest.remove(Integer.valueOf(c));
                set |= survivors(e, rule, rest);
            }
        }
        return set;
    }

    private static int strength(List<List<Integer>> e, int a, int b) {
        return strongestWay(e, a, b, 1 << a, Integer.MAX_VALUE);
    }

    private static int strongestWay(List<List<Integer>> e, int at, int goal, int visited, int soFar) {
        if (at == goal) {
            return soFar;
        }
        int best = 0;
        for (int next = 0; next < 5; next++) {
            int m = margin(e, at, next);
            if (m > 0 && (visited & (1 << next)) == 0) {
                best = Math.max(best, strongestWay(e, next, goal, visited | 1 << next, Math.min(soFar, m)));
            }
        }
        return best;
    }

    private static int smallestDominating(List<List<Integer>> e) {
        int best = 31;
        for (int set = 1; set <= 31; set++) {
            boolean dominates = true;
            for (int a : members(set)) {
                for (int b : members(31 ^ set)) {
                    dominates &= beats(e, a, b);
                }
            }
            if (dominates && members(set).size() < members(best).size()) {
                best = set;
            }
        }
        return best;
    }

    private static int chainFronts(List<List<Integer>> e, List<Integer> chain) {
        int set = 0;
        if (!chain.isEmpty()) {
            boolean longer = false;
            for (int d = 0; d < 5; d++) {
                boolean beatsAll = !chain.contains(d);
                for (int c : chain) {
                    beatsAll &= beats(e, d, c);
                }
                longer |= beatsAll;
            }
            set |= longer ? 0 : 1 << chain.get(0);
        }
        for (int d = 0; d < 5; d++) {
            boolean fits = !chain.contains(d);
            for (int c : chain) {
                fits &= beats(e, c, d);
            }
            if (fits) {
                chain.add(d);
                set |= chainFronts(e, chain);
                chain.remove(chain.size() - 1);
            }
        }
        return set;
    }

    private static int fewest(List<List<Integer>> e, int rule) {
        int least = Integer.MAX_VALUE;
        int set = 31;
        for (int c = 0; c < 5; c++) {
            int n = rule == 15 ? swaps(e, c) : removals(e, c);
            if (n != NONE && n < least) {
                least = n;
                set = 0;
            }
            set |= n == least ? 1 << c : 0;
        }
        return set;
    }

    private static int removals(List<List<Integer>> e, int c) {
        int least = NONE;
        for (int kept = 1; kept < 1 << e.size(); kept++) {
            List<List<Integer>> rest = new ArrayList<>();
            for (int i = 0; i < e.size(); i++) {
                if ((kept >> i & 1) == 1) {
                    rest.add(e.get(i));
                }
            }
            int n = e.size() - rest.size();
            if ((least == NONE || n < least) && leader(rest) == c) {
                least = n;
            }
        }
        return least;
    }

    // Any ballot may become any other one at the price of the couples that they order differently; what counts for c
    // is only how many ballots have it before each other candidate: the digits of the index, to a base above them all.
    private static int swaps(List<List<Integer>> e, int c) {
        int base = e.size() + 1, size = 1;
        int[] power = new int[5];
        for (int d = 0; d < 5; d++) {
            power[d] = size;
            size *= d == c ? 1 : base;
        }
        int[] costs = unreached(size);
        costs[0] = 0;
        for (List<Integer> ballot : e) {
            int[] next = unreached(size);
            Map<Integer, Integer> prices = cheapestSetsBehind(ballot, c);
            for (Map.Entry<Integer, Integer> price : prices.entrySet()) {
                int step = 0;
                for (int d : members(price.getKey())) {
                    step += power[d];
                }
                for (int k = 0; k + step < size; k++) {
                    if (costs[k] >= 0 && (next[k + step] < 0 || costs[k] + price.getValue() < next[k + step])) {
                        next[k + step] = costs[k] + price.getValue();
                    }
                }
            }
            costs = next;
        }
        int least = NONE;
        for (int k = 0; k < size; k++) {
            boolean wins = costs[k] >= 0;
            for (int d = 0; d < 5; d++) {
                wins &= d == c || 2 * (k / power[d] % base) > e.size();
            }
            if (wins && (least == NONE || costs[k] < least)) {
                least = costs[k];
            }
        }
        return least;
    }

    private static int[] unreached(int size) {
        int[] costs = new int[size];
        Arrays.fill(costs, -1);
        return costs;
    }

    private static final Map<Integer, Map<Integer, Integer>> PRICES = new HashMap<>();

    private static Map<Integer, Integer> cheapestSetsBehind(List<Integer> ballot, int c) {
        return PRICES.computeIfAbsent(code(ballot) * 5 + c, key -> {
            Map<Integer, Integer> prices = new HashMap<>();
            for (List<Integer> target : ALL_ORDERS) {
                int behind = 0, cost = 0;
                for (int a = 0; a < 5; a++) {
                    behind |= prefers(target, c, a) ? 1 << a : 0;
                    for (int b = 0; b < a; b++) {
                        cost += prefers(ballot, a, b) != prefers(target, a, b) ? 1 : 0;
                    }
                }
                prices.merge(behind, cost, Math::min);
            }
            return prices;
        });
    }

    // Nothing but the exchanges themselves, nearest elections first.
    private static int swapsBySearch(List<List<Integer>> start, int c) {
        Set<List<List<Integer>>> seen = new HashSet<>(Set.of(start));
        List<List<List<Integer>>> front = List.of(start);
        for (int n = 0; !front.isEmpty(); n++) {
            List<List<List<Integer>>> next = new ArrayList<>();
            for (List<List<Integer>> e : front) {
                if (leader(e) == c) {
                    return n;
                }
                for (int i = 0; i < e.size(); i++) {
                    for (int p = 0; p < 4; p++) {
                        List<Integer> ballot = new ArrayList<>(e.get(i));
                        ballot.set(p, ballot.set(p + 1, ballot.get(p)));
                        List<List<Integer>> changed = new ArrayList<>(e);
                        changed.set(i, ballot);
                        if (seen.add(changed)) {
                            next.add(changed);
                        }
                    }
                }
            }
            front = next;
        }
        return NONE;
    }

    private static int gain(List<List<Integer>> e, int rule, int i) {
        int now = best(e.get(i), winners(e, rule));
        int found = NONE;
        for (List<Integer> other : ALL_ORDERS) {
            List<List<Integer>> changed = new ArrayList<>(e);
            changed.set(i, other);
            boolean smaller = found == NONE || code(other) < found;
            if (now > 0 && smaller && best(e.get(i), winners(changed, rule)) < now) {
                found = code(other);
            }
        }
        return found;
    }

    private static int best(List<Integer> ballot, int set) {
        for (int p = 0; p < 5; p++) {
            if (members(set).contains(ballot.get(p))) {
                return p;
            }
        }
        return 5;
    }

    // Rule 10: takes every couple in every order that the margins allow, and remembers where it has been.
    private static final class Couples {
        private final List<int[]> couples = new ArrayList<>();
        private final Set<Integer> seen = new HashSet<>();
        private int winners = 0;

        Couples(List<List<Integer>> e) {
            for (int a = 0; a < 5; a++) {
                for (int b = 0; b < 5; b++) {
                    if (beats(e, a, b)) {
                        couples.add(new int[] {a, b, margin(e, a, b)});
                    }
                }
            }
        }

        int winners() {
            take(0, 0);
            return winners;
        }

        private void take(int taken, int kept) {
            if (!seen.add(taken << 10 | kept)) {
                return;
            }
            int greatest = 0;
            for (int k = 0; k < couples.size(); k++) {
                greatest = (taken >> k & 1) == 1 ? greatest : Math.max(greatest, couples.get(k)[2]);
            }
            if (greatest == 0) {
                finish(kept);
            }
            for (int k = 0; k < couples.size(); k++) {
                int[] couple = couples.get(k);
                if ((taken >> k & 1) == 0 && couple[2] == greatest) {
                    boolean back = leads(kept, couple[1], couple[0], 0);
                    take(taken | 1 << k, back ? kept : kept | 1 << k);
                }
            }
        }

        private boolean leads(int kept, int from, int to, int steps) {
            boolean found = from == to;
            for (int k = 0; k < couples.size() && !found && steps < 5; k++) {
                if ((kept >> k & 1) == 1 && couples.get(k)[0] == from) {
                    found = leads(kept, couples.get(k)[1], to, steps + 1);
                }
            }
            return found;
        }

        private void finish(int kept) {
            int set = 31;
            for (int k = 0; k < couples.size(); k++) {
                set &= (kept >> k & 1) == 1 ? ~(1 << couples.get(k)[1]) : 31;
            }
            winners |= set;
        }
    }
}
