// Up to nine ballots that rank five candidates, and who wins by seventeen rules.
// A set of candidates is an int with bit c for candidate c, as winners answers it.
public final class VotingSuite {
    public static final int BAD = -1000;
    public static final int FULL = -1001;
    public static final int NONE = -1002;

    private static final int CANDIDATES = 5;
    private static final int ALL = 31;
    private static final int MAX_BALLOTS = 9;
    private static final int ORDERS = 3125;

    private static final int MOST_FIRSTS = 0;
    private static final int FEWEST_LASTS = 1;
    private static final int MOST_POINTS = 2;
    private static final int MOST_VICTORIES = 3;
    private static final int SMALLEST_MARGIN = 4;
    private static final int MAJORITY_DEPTH = 5;
    private static final int FIRST_ELIMINATION = 6;
    private static final int LAST_ELIMINATION = 8;
    private static final int STRONGEST_WAYS = 9;
    private static final int KEPT_COUPLES = 10;
    private static final int SMALLEST_DOMINATING = 11;
    private static final int ANSWERED_WAYS = 12;
    private static final int UNCOVERED = 13;
    private static final int CHAIN_FRONTS = 14;
    private static final int FEWEST_SWAPS = 15;
    private static final int FEWEST_REMOVALS = 16;

    private static final int RANKS = MAX_BALLOTS * CANDIDATES;
    private static final int CELLS = CANDIDATES * CANDIDATES;
    private static final int SETS = 32;
    private static final int PAIRS = 10;
    private static final int PAIR_SETS = 1024;

    // With 9 ballots a candidate lacks at most 5 of them against another one: three bits hold that, for four others.
    private static final int NEED_BITS = 3;
    private static final int NEED_MASK = 7;
    private static final int NEED_STATES = 4096;

    // Greater than every score and every number of exchanges.
    private static final int ABOVE_ALL = 1000000;

    private int count;
    private final int[] orders = new int[MAX_BALLOTS];

    // What follows from the orders, made anew at each change: the cell of ballot i starts at i * CANDIDATES,
    // that of candidate a at a * CANDIDATES.
    private final int[] ranked = new int[RANKS];
    private final int[] place = new int[RANKS];
    private final int[] margins = new int[CELLS];
    private final int[] beaten = new int[CANDIDATES];

    // Room for single calls; no call reads what an earlier one left here.
    private final int[] strongest = new int[CELLS];
    private final boolean[] possibleSet = new boolean[SETS];
    private final int[] scoreNow = new int[CANDIDATES];
    private final int[] pairUpper = new int[PAIRS];
    private final int[] pairLower = new int[PAIRS];
    private final int[] pairMargin = new int[PAIRS];
    private final boolean[] possibleKept = new boolean[PAIR_SETS];
    private final int[] comesTo = new int[CANDIDATES];
    private final int[] swapCost = new int[NEED_STATES];
    private final int[] placeBefore = new int[CANDIDATES];

    public VotingSuite() {
        count = 0;
    }

    public int ballot(int order) {
        if (count >= MAX_BALLOTS) {
            return FULL;
        }
        if (!isRanking(order)) {
            return BAD;
        }
        orders[count] = order;
        readRanking(count);
        count++;
        countMargins();
        return count;
    }

    public int drop(int i) {
        if (!isBallot(i)) {
            return BAD;
        }
        count--;
        for (int k = i; k < count; k++) {
            orders[k] = orders[k + 1];
            readRanking(k);
        }
        countMargins();
        return count;
    }

    public int order(int i) {
        return isBallot(i) ? orders[i] : BAD;
    }

    public int margin(int a, int b) {
        if (!isCandidate(a) || !isCandidate(b)) {
            return 0;
        }
        return margins[a * CANDIDATES + b];
    }

    public int winners(int rule) {
        return isRule(rule) ? winnerSet(rule) : BAD;
    }

    public int score(int rule, int c) {
        if (rule < MOST_FIRSTS || rule > MAJORITY_DEPTH || !isCandidate(c)) {
            return BAD;
        }
        return scoreOf(rule, c);
    }

    public int strength(int a, int b) {
        if (!isCandidate(a) || !isCandidate(b) || a == b) {
            return 0;
        }
        findStrongestWays();
        return strongest[a * CANDIDATES + b];
    }

    public int swaps(int c) {
        return isCandidate(c) ? fewestSwaps(c) : BAD;
    }

    public int removals(int c) {
        return isCandidate(c) ? fewestRemovals(c) : BAD;
    }

    public int leader() {
        for (int c = 0; c < CANDIDATES; c++) {
            if ((beaten[c] | 1 << c) == ALL) {
                return c;
            }
        }
        return NONE;
    }

    public int gain(int rule, int i) {
        if (rule < MOST_FIRSTS || rule > CHAIN_FRONTS || !isBallot(i)) {
            return BAD;
        }
        int honest = orders[i];
        for (int c = 0; c < CANDIDATES; c++) {
            placeBefore[c] = place[i * CANDIDATES + c];
        }
        int honestSet = winnerSet(rule);
        int honestPlace = bestPlaceBefore(honestSet);
        int found = NONE;
        for (int other = 0; other < ORDERS && found == NONE; other++) {
            if (isRanking(other)) {
                replaceBallot(i, other);
                int otherSet = winnerSet(rule);
                if (bestPlaceBefore(otherSet) < honestPlace) {
                    found = other;
                }
            }
        }
        replaceBallot(i, honest);
        return found;
    }

    public boolean agree(int rule, int other) {
        return isRule(rule) && isRule(other) && winnerSet(rule) == winnerSet(other);
    }

    public int ballots() {
        return count;
    }

    private static boolean isCandidate(int c) {
        return c >= 0 && c < CANDIDATES;
    }

    private static boolean isRule(int rule) {
        return rule >= MOST_FIRSTS && rule <= FEWEST_REMOVALS;
    }

    private static boolean isRanking(int order) {
        if (order < 0 || order >= ORDERS) {
            return false;
        }
        int seen = 0;
        int rest = order;
        for (int k = 0; k < CANDIDATES; k++) {
            seen |= 1 << rest % CANDIDATES;
            rest /= CANDIDATES;
        }
        return seen == ALL;
    }

    private static boolean has(int set, int member) {
        return (set >> member & 1) == 1;
    }

    // No set here has more members than there are ballots or pairs.
    private static int sizeOf(int set) {
        int size = 0;
        for (int member = 0; member < PAIRS; member++) {
            size += set >> member & 1;
        }
        return size;
    }

    private boolean isBallot(int i) {
        return i >= 0 && i < count;
    }

    private void readRanking(int i) {
        int rest = orders[i];
        for (int p = CANDIDATES - 1; p >= 0; p--) {
            int c = rest % CANDIDATES;
            rest /= CANDIDATES;
            ranked[i * CANDIDATES + p] = c;
            place[i * CANDIDATES + c] = p;
        }
    }

    private void countMargins() {
        for (int a = 0; a < CANDIDATES; a++) {
            beaten[a] = 0;
            for (int b = 0; b < CANDIDATES; b++) {
                int m = marginWithout(a, b, 0);
                margins[a * CANDIDATES + b] = m;
                if (m > 0) {
                    beaten[a] |= 1 << b;
                }
            }
        }
    }

    // The margin of a over b when the ballots of the set removed do not count.
    private int marginWithout(int a, int b, int removed) {
        int m = 0;
        for (int i = 0; i < count; i++) {
            int placeOfA = place[i * CANDIDATES + a];
            int placeOfB = place[i * CANDIDATES + b];
            boolean counts = (removed >> i & 1) == 0;
            if (counts && placeOfA < placeOfB) {
                m++;
            } else if (counts && placeOfA > placeOfB) {
                m--;
            }
        }
        return m;
    }

    private void replaceBallot(int i, int order) {
        orders[i] = order;
        readRanking(i);
        countMargins();
    }

    private int bestPlaceBefore(int set) {
        int best = CANDIDATES;
        for (int c = 0; c < CANDIDATES; c++) {
            if (has(set, c) && placeBefore[c] < best) {
                best = placeBefore[c];
            }
        }
        return best;
    }

    private int winnerSet(int rule) {
        if (rule <= MAJORITY_DEPTH) {
            return greatestScores(rule);
        }
        if (rule <= LAST_ELIMINATION) {
            // The rules 6, 7 and 8 let one go that has the least score of the rules 0, 1 and 2 among those still there.
            return possibleSurvivors(rule - FIRST_ELIMINATION);
        }
        switch (rule) {
            case STRONGEST_WAYS:
                return strongestOnes();
            case KEPT_COUPLES:
                return headsOfKeptCouples();
            case SMALLEST_DOMINATING:
                return smallestDominatingSet();
            case ANSWERED_WAYS:
                return onesWithAnsweredWays();
            case UNCOVERED:
                return uncoveredOnes();
            case CHAIN_FRONTS:
                return frontsOfChains();
            default:
                return leastEffort(rule);
        }
    }

    private int greatestScores(int rule) {
        int best = scoreOf(rule, 0);
        int set = 1;
        for (int c = 1; c < CANDIDATES; c++) {
            int s = scoreOf(rule, c);
            if (s > best) {
                best = s;
                set = 0;
            }
            if (s == best) {
                set |= 1 << c;
            }
        }
        return set;
    }

    private int scoreOf(int rule, int c) {
        switch (rule) {
            case MOST_VICTORIES:
                return victoryScore(c);
            case SMALLEST_MARGIN:
                return smallestMargin(c);
            case MAJORITY_DEPTH:
                return majorityScore(c);
            default:
                return scoreAmong(rule, c, ALL);
        }
    }

    // The score of c by rule 0, 1 or 2 when only the candidates of the set are there.
    private int scoreAmong(int rule, int c, int set) {
        int others = sizeOf(set) - 1;
        int s = 0;
        for (int i = 0; i < count; i++) {
            int behind = membersBehind(i, c, set);
            if (rule == MOST_FIRSTS && behind == others) {
                s++;
            } else if (rule == FEWEST_LASTS && behind == 0) {
                s--;
            } else if (rule == MOST_POINTS) {
                s += behind;
            }
        }
        return s;
    }

    private int membersBehind(int i, int c, int set) {
        int behind = 0;
        for (int p = place[i * CANDIDATES + c] + 1; p < CANDIDATES; p++) {
            behind += set >> ranked[i * CANDIDATES + p] & 1;
        }
        return behind;
    }

    private int victoryScore(int c) {
        int s = 0;
        for (int d = 0; d < CANDIDATES; d++) {
            if (has(beaten[c], d)) {
                s += 2;
            } else if (d != c && !has(beaten[d], c)) {
                s++;
            }
        }
        return s;
    }

    private int smallestMargin(int c) {
        int least = MAX_BALLOTS;
        for (int d = 0; d < CANDIDATES; d++) {
            int m = margins[c * CANDIDATES + d];
            if (d != c && m < least) {
                least = m;
            }
        }
        return least;
    }

    private int majorityScore(int c) {
        boolean found = false;
        int score = 0;
        for (int k = 1; k <= CANDIDATES && !found; k++) {
            score = ballotsWithin(c, k);
            for (int d = 0; d < CANDIDATES; d++) {
                found = found || 2 * ballotsWithin(d, k) > count;
            }
        }
        return score;
    }

    private int ballotsWithin(int c, int k) {
        int n = 0;
        for (int i = 0; i < count; i++) {
            if (place[i * CANDIDATES + c] < k) {
                n++;
            }
        }
        return n;
    }

    // A set gets smaller with each that goes, so going down the numbers of sets meets each after all it can come from.
    private int possibleSurvivors(int rule) {
        for (int set = 0; set < SETS; set++) {
            possibleSet[set] = false;
        }
        possibleSet[ALL] = true;
        int winners = 0;
        for (int set = ALL; set > 0; set--) {
            if (possibleSet[set]) {
                if (sizeOf(set) == 1) {
                    winners |= set;
                } else {
                    letOneGo(rule, set);
                }
            }
        }
        return winners;
    }

    private void letOneGo(int rule, int set) {
        int least = ABOVE_ALL;
        for (int c = 0; c < CANDIDATES; c++) {
            scoreNow[c] = scoreAmong(rule, c, set);
            if (has(set, c) && scoreNow[c] < least) {
                least = scoreNow[c];
            }
        }
        for (int c = 0; c < CANDIDATES; c++) {
            if (has(set, c) && scoreNow[c] == least) {
                possibleSet[set & ~(1 << c)] = true;
            }
        }
    }

    private void findStrongestWays() {
        for (int cell = 0; cell < CELLS; cell++) {
            strongest[cell] = margins[cell] > 0 ? margins[cell] : 0;
        }
        for (int via = 0; via < CANDIDATES; via++) {
            for (int a = 0; a < CANDIDATES; a++) {
                for (int b = 0; b < CANDIDATES; b++) {
                    int before = strongest[a * CANDIDATES + via];
                    int after = strongest[via * CANDIDATES + b];
                    int whole = before < after ? before : after;
                    if (whole > strongest[a * CANDIDATES + b]) {
                        strongest[a * CANDIDATES + b] = whole;
                    }
                }
            }
        }
    }

    private int strongestOnes() {
        findStrongestWays();
        int winners = ALL;
        for (int a = 0; a < CANDIDATES; a++) {
            for (int b = 0; b < CANDIDATES; b++) {
                if (strongest[a * CANDIDATES + b] < strongest[b * CANDIDATES + a]) {
                    winners &= ~(1 << a);
                }
            }
        }
        return winners;
    }

    // There is a way just where the strongest one is above 0.
    private int onesWithAnsweredWays() {
        findStrongestWays();
        int winners = ALL;
        for (int a = 0; a < CANDIDATES; a++) {
            for (int b = 0; b < CANDIDATES; b++) {
                if (strongest[b * CANDIDATES + a] > 0 && strongest[a * CANDIDATES + b] == 0) {
                    winners &= ~(1 << a);
                }
            }
        }
        return winners;
    }

    // A couple that can't be kept now can't be kept later either, so the set of kept couples alone tells where an
    // order of the couples stands. It only grows, so going up the numbers of sets meets each after all it can come
    // from.
    private int headsOfKeptCouples() {
        listPairs();
        for (int kept = 0; kept < PAIR_SETS; kept++) {
            possibleKept[kept] = false;
        }
        possibleKept[0] = true;
        int winners = 0;
        for (int kept = 0; kept < PAIR_SETS; kept++) {
            if (possibleKept[kept]) {
                findWaysOver(kept);
                int next = greatestOpenMargin(kept);
                if (next == 0) {
                    winners |= ALL & ~lowersOf(kept);
                } else {
                    keepOneOf(kept, next);
                }
            }
        }
        return winners;
    }

    // A pair with the margin 0 is no couple; it stays in the list so that each pair has its fixed number.
    private void listPairs() {
        int pair = 0;
        for (int a = 0; a < CANDIDATES; a++) {
            for (int b = a + 1; b < CANDIDATES; b++) {
                int m = margins[a * CANDIDATES + b];
                pairUpper[pair] = m > 0 ? a : b;
                pairLower[pair] = m > 0 ? b : a;
                pairMargin[pair] = m > 0 ? m : -m;
                pair++;
            }
        }
    }

    private void findWaysOver(int kept) {
        for (int a = 0; a < CANDIDATES; a++) {
            comesTo[a] = 0;
        }
        for (int pair = 0; pair < PAIRS; pair++) {
            if (has(kept, pair)) {
                comesTo[pairUpper[pair]] |= 1 << pairLower[pair];
            }
        }
        for (int via = 0; via < CANDIDATES; via++) {
            for (int a = 0; a < CANDIDATES; a++) {
                if (has(comesTo[a], via)) {
                    comesTo[a] |= comesTo[via];
                }
            }
        }
    }

    // Not kept yet, and would be kept if its turn came now.
    private boolean isOpen(int pair, int kept) {
        return pairMargin[pair] > 0 && !has(kept, pair) && !has(comesTo[pairLower[pair]], pairUpper[pair]);
    }

    private int greatestOpenMargin(int kept) {
        int greatest = 0;
        for (int pair = 0; pair < PAIRS; pair++) {
            if (isOpen(pair, kept) && pairMargin[pair] > greatest) {
                greatest = pairMargin[pair];
            }
        }
        return greatest;
    }

    private void keepOneOf(int kept, int next) {
        for (int pair = 0; pair < PAIRS; pair++) {
            if (isOpen(pair, kept) && pairMargin[pair] == next) {
                possibleKept[kept | 1 << pair] = true;
            }
        }
    }

    private int lowersOf(int kept) {
        int lowers = 0;
        for (int pair = 0; pair < PAIRS; pair++) {
            if (has(kept, pair)) {
                lowers |= 1 << pairLower[pair];
            }
        }
        return lowers;
    }

    // Of two sets that dominate one lies in the other and so has the smaller number: the first one found is the
    // smallest.
    private int smallestDominatingSet() {
        for (int set = 1; set < ALL; set++) {
            if (dominates(set)) {
                return set;
            }
        }
        return ALL;
    }

    private boolean dominates(int set) {
        for (int a = 0; a < CANDIDATES; a++) {
            if (has(set, a) && (set | beaten[a]) != ALL) {
                return false;
            }
        }
        return true;
    }

    private int uncoveredOnes() {
        int winners = ALL;
        for (int a = 0; a < CANDIDATES; a++) {
            for (int b = 0; b < CANDIDATES; b++) {
                if (has(beaten[b], a) && (beaten[a] & ~beaten[b]) == 0) {
                    winners &= ~(1 << a);
                }
            }
        }
        return winners;
    }

    private int frontsOfChains() {
        int winners = 0;
        for (int set = 1; set < SETS; set++) {
            if (isChain(set) && !someoneBeatsAllOf(set)) {
                winners |= frontOf(set);
            }
        }
        return winners;
    }

    // The members form a chain just if no two of them beat equally many members: then the first beats all the others,
    // the second all but the first, and so on.
    private boolean isChain(int set) {
        int seen = 0;
        for (int a = 0; a < CANDIDATES; a++) {
            if (has(set, a)) {
                seen |= 1 << sizeOf(beaten[a] & set);
            }
        }
        return sizeOf(seen) == sizeOf(set);
    }

    private boolean someoneBeatsAllOf(int set) {
        for (int a = 0; a < CANDIDATES; a++) {
            if ((beaten[a] & set) == set) {
                return true;
            }
        }
        return false;
    }

    private int frontOf(int chain) {
        for (int a = 0; a < CANDIDATES; a++) {
            if (has(chain, a) && ((beaten[a] | 1 << a) & chain) == chain) {
                return 1 << a;
            }
        }
        return 0;
    }

    private int leastEffort(int rule) {
        int least = NONE;
        int set = ALL;
        for (int c = 0; c < CANDIDATES; c++) {
            int n = rule == FEWEST_SWAPS ? fewestSwaps(c) : fewestRemovals(c);
            if (n != NONE && (least == NONE || n < least)) {
                least = n;
                set = 0;
            }
            if (n != NONE && n == least) {
                set |= 1 << c;
            }
        }
        return set;
    }

    // Only moving c forward helps: to bring c before d on a ballot, each one between them must change places with one
    // of them anyway. A state tells how many ballots c still lacks against each other candidate. A step leads to a
    // smaller state, so going up the states uses no ballot twice.
    private int fewestSwaps(int c) {
        if (count == 0) {
            return NONE;
        }
        for (int state = 0; state < NEED_STATES; state++) {
            swapCost[state] = ABOVE_ALL;
        }
        int start = needsOf(c);
        swapCost[start] = 0;
        for (int i = 0; i < count; i++) {
            for (int state = 0; state <= start; state++) {
                if (swapCost[state] < ABOVE_ALL) {
                    moveForward(i, c, state);
                }
            }
        }
        return swapCost[0];
    }

    private int needsOf(int c) {
        int needs = 0;
        for (int d = 0; d < CANDIDATES; d++) {
            int m = margins[c * CANDIDATES + d];
            if (d != c && m <= 0) {
                needs |= (-m / 2 + 1) << needShift(c, d);
            }
        }
        return needs;
    }

    private static int needShift(int c, int d) {
        return NEED_BITS * (d < c ? d : d - 1);
    }

    private void moveForward(int i, int c, int state) {
        int from = place[i * CANDIDATES + c];
        int cost = swapCost[state];
        int left = state;
        for (int p = from - 1; p >= 0; p--) {
            int shift = needShift(c, ranked[i * CANDIDATES + p]);
            if ((left >> shift & NEED_MASK) > 0) {
                left -= 1 << shift;
            }
            cost++;
            if (cost < swapCost[left]) {
                swapCost[left] = cost;
            }
        }
    }

    // Counts the sets of ballots up to, but without, the one with all of them.
    private int fewestRemovals(int c) {
        int fewest = NONE;
        int everyBallot = (1 << count) - 1;
        for (int removed = 0; removed < everyBallot; removed++) {
            int size = sizeOf(removed);
            if ((fewest == NONE || size < fewest) && leadsWithout(c, removed)) {
                fewest = size;
            }
        }
        return fewest;
    }

    private boolean leadsWithout(int c, int removed) {
        for (int d = 0; d < CANDIDATES; d++) {
            if (d != c && marginWithout(c, d, removed) <= 0) {
                return false;
            }
        }
        return true;
    }
}
