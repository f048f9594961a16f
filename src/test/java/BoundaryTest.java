// The sentences of the document that name a boundary case, word for word, each with a test of its own: the last value
// inside a range and the first one outside it, the least and the greatest int, no ballots and nine, the order in which
// a call tests its arguments, and that a refused call changes nothing.
public final class BoundaryTest {
    private static final int BAD = -1000, FULL = -1001, NONE = -1002;
    private static final int MIN = Integer.MIN_VALUE, MAX = Integer.MAX_VALUE;

    // Five times the first two wraps round to 1 and 4, a shift by 32 or -28 is one by 0 or 4, and the low bytes of 256
    // and 65536 are 0: a look at the wrong number would take them for small ones.
    private static final int[] FAR_OUT =
        {-858993459, 858993460, 32, -28, 256, 65536, MIN, MIN + 1, MAX - 1, MAX};

    private static final String[] NINE =
        {"01234", "34120", "20413", "43210", "12034", "40321", "13204", "24013", "30142"};
    private static final String[] OPPOSITE = {"01234", "43210"};
    private static final String[] LEAD_BY_ONE = {"5*01234", "4*10234"};
    private static final String[] HALF_AND_HALF = {"4*01234", "4*10234"};
    // 1 beats 2 by 7; 0 leads by 1 over both. Whoever casts the last ballot can make 2 beat 0, and so a cycle.
    private static final String[] BREAKABLE = {"4*01234", "3*12034", "20134", "10234"};

    // The whole test takes about a second.
    private static final int LONGEST_MILLIS = 120000;

    private static volatile String sentence = "";
    private static int sentences = 0;
    private static int wrong = 0;
    private static int checked = 0;

    public static void main(String[] args) {
        Runnable[] tests = {
            BoundaryTest::whatItIs, BoundaryTest::ballotsAndMargins, BoundaryTest::setsStillThere,
            BoundaryTest::rulesWithScores, BoundaryTest::eliminations, BoundaryTest::waysAndCouples,
            BoundaryTest::setsByVictories, BoundaryTest::swapsAndRemovals, BoundaryTest::newObject,
            BoundaryTest::ballot, BoundaryTest::drop, BoundaryTest::order, BoundaryTest::margin,
            BoundaryTest::winners, BoundaryTest::score, BoundaryTest::strength, BoundaryTest::swaps,
            BoundaryTest::removals, BoundaryTest::leader, BoundaryTest::gain, BoundaryTest::gainRefused,
            BoundaryTest::agree, BoundaryTest::ballots, BoundaryTest::orderAndLimits, BoundaryTest::language
        };
        watchForCallsWithoutEnd();
        for (Runnable test : tests) {
            due("the calls throw nothing", throwsNothing(test), true);
        }
        System.out.println(sentences + " sentences, " + checked + " answers checked, " + wrong + " are wrong");
        if (wrong != 0) {
            System.exit(1);
        }
    }

    // ---- What it is

    private static void whatItIs() {
        says("An object is used for at most 512 calls after it has been made");
        due("ballot as call 512", after(511, 8).ballot(code(NINE[8])), 9);
        due("a refused ballot as call 512", after(511, 9).ballot(194), FULL);
        due("drop as call 512", after(511, 9).drop(8), 8);
        due("order as call 512", after(511, 9).order(8), code(NINE[8]));
        due("margin as call 512", after(511, 2).margin(0, 4), 0);
        due("winners as call 512", after(511, 1).winners(16), 1);
        due("score as call 512", after(511, 1).score(5, 0), 1);
        due("strength as call 512", after(511, 1).strength(0, 4), 1);
        due("swaps as call 512", after(511, 1).swaps(4), 4);
        due("removals as call 512", after(511, 1).removals(0), 0);
        due("leader as call 512", after(511, 1).leader(), 0);
        due("gain as call 512", after(511, 1).gain(14, 0), NONE);
        due("agree as call 512", after(511, 1).agree(15, 16), true);
        due("ballots as call 512", after(511, 9).ballots(), 9);
        VotingSuite x = suite(BREAKABLE);
        for (int call = 10; call <= 512; call++) {
            due("gain as call " + call, x.gain(10, 8), code("12034"));
        }
    }

    // The last calls before are the ballots; all kinds of changes and questions stand in front of them.
    private static VotingSuite after(int calls, int ballots) {
        VotingSuite x = new VotingSuite();
        for (int n = 0; n < calls - ballots; n++) {
            switch ((calls - ballots - n) % 4) {
                case 3: x.ballot(2930); break;
                case 2: x.winners(n % 17); break;
                case 1: x.drop(0); break;
                default: x.ballot(-n); break;
            }
        }
        for (int i = 0; i < ballots; i++) {
            x.ballot(code(NINE[i]));
        }
        return x;
    }

    // ---- Terms

    private static void ballotsAndMargins() {
        says("There are 5 CANDIDATES, 0 to 4");
        for (int c = 0; c <= 4; c++) {
            // The one named is moved to the front: it wins alone.
            VotingSuite x = suite(c + "01234".replace("" + c, ""));
            due("leader() " + c, x.leader(), c);
            due("winners(0), " + c, x.winners(0), 1 << c);
            due("score(2, " + c + ")", x.score(2, c), 4);
            due("margin(" + c + ", next)", x.margin(c, (c + 1) % 5), 1);
            due("strength(" + c + ", next)", x.strength(c, (c + 1) % 5), 1);
            due("swaps(" + c + ")", x.swaps(c), 0);
            due("removals(" + c + ")", x.removals(c), 0);
        }
        due("score(0, 5)", suite("01234").score(0, 5), BAD);
        due("score(0, -1)", suite("01234").score(0, -1), BAD);

        says("up to 9 BALLOTS, numbered from 0");
        VotingSuite nine = first(9);
        due("order(0)", nine.order(0), code(NINE[0]));
        due("order(8)", nine.order(8), code(NINE[8]));
        due("order(9)", nine.order(9), BAD);
        due("order(-1)", nine.order(-1), BAD);
        due("a tenth", nine.ballot(194), FULL);

        says("written as the candidates as digits to base 5, the best one the highest");
        due("194", withOrder(194).leader(), 0);
        due("the last one of 194", withOrder(194).score(1, 4), -1);
        due("2930", withOrder(2930).leader(), 4);
        due("the last one of 2930", withOrder(2930).score(1, 0), -1);
        due("3 * 625 + 1 * 125 + 4 * 25 + 2 * 5 + 0", withOrder(2110).swaps(4), 2);

        says("A ballot PREFERS a candidate to all behind it");
        VotingSuite one = suite("31420");
        int[] ranked = {3, 1, 4, 2, 0};
        for (int p = 0; p < 5; p++) {
            for (int q = 0; q < 5; q++) {
                due("margin(" + ranked[p] + ", " + ranked[q] + ")", one.margin(ranked[p], ranked[q]),
                    Integer.compare(q, p));
            }
        }

        says("the number of ballots that prefer a to b less the number of those that prefer b to a");
        due("all nine", suite("9*01234").margin(0, 4), 9);
        due("none of nine", suite("9*01234").margin(4, 0), -9);
        due("five of nine", suite(LEAD_BY_ONE).margin(0, 1), 1);
        due("four of nine", suite(LEAD_BY_ONE).margin(1, 0), -1);
        due("four of eight", suite(HALF_AND_HALF).margin(0, 1), 0);
        due("none of none", suite().margin(0, 1), 0);

        says("a BEATS b iff it is above 0");
        due("by 1: leader()", suite(LEAD_BY_ONE).leader(), 0);
        due("by 0: leader()", suite(HALF_AND_HALF).leader(), NONE);
        due("by 1: strength(0, 1)", suite(LEAD_BY_ONE).strength(0, 1), 1);
        due("by -1: strength(1, 0)", suite(LEAD_BY_ONE).strength(1, 0), 0);
        due("by 0: strength(0, 1)", suite(HALF_AND_HALF).strength(0, 1), 0);
        for (int rule : new int[] {3, 4, 9, 10, 11, 12, 13, 14, 15, 16}) {
            due("by 1: winners(" + rule + ")", suite(LEAD_BY_ONE).winners(rule), 1);
            due("by 0: winners(" + rule + ")", suite(HALF_AND_HALF).winners(rule), 3);
        }
    }

    private static void setsStillThere() {
        says("a ballot's first (last) one is the best (worst) of them");
        // First: 3 and 4 go, then 1, whose ballot turns to 0. Last: 4 and 3 go, then 2 with three of five.
        String[] squeeze = {"2*01234", "2*21034", "10234"};
        due("winners(6)", suite(squeeze).winners(6), 1);
        due("winners(7)", suite(squeeze).winners(7), 2);
        due("score(0, 1) with all there", suite(squeeze).score(0, 1), 1);
        due("score(1, 2) with all there", suite(squeeze).score(1, 2), 0);

        says("the POINTS of a candidate are, summed over the ballots, the number of those of them behind it");
        scores("nine the same", suite("9*01234"), 2, 36, 27, 18, 9, 0);
        scores("opposite", suite(OPPOSITE), 2, 4, 4, 4, 4, 4);
        scores("no ballots", suite(), 2, 0, 0, 0, 0, 0);
        // 1 has most points with all there (17 against 12), but 0 and 1 get 3 and 2 when only they are left.
        due("winners(2)", suite("3*01234", "2*12340").winners(2), 2);
        due("winners(8)", suite("3*01234", "2*12340").winners(8), 1);
    }

    private static void rulesWithScores() {
        says("in 0 to 5 those with the greatest SCORE");
        int[] shared = {17, 14, 31, 31, 31, 4};
        for (int rule = 0; rule <= 5; rule++) {
            due("equal scores: winners(" + rule + ")", suite(OPPOSITE).winners(rule), shared[rule]);
            due("no ballots: winners(" + rule + ")", suite().winners(rule), 31);
        }

        says("the number of ballots on which it is first");
        scores("nine the same", suite("9*01234"), 0, 9, 0, 0, 0, 0);
        scores("no ballots", suite(), 0, 0, 0, 0, 0, 0);

        says("minus the number of those on which it is last");
        scores("nine the same", suite("9*01234"), 1, 0, 0, 0, 0, -9);
        scores("no ballots", suite(), 1, 0, 0, 0, 0, 0);

        says("twice the number of candidates that it beats plus the number of other ones with which it has"
            + " the margin 0");
        scores("all beaten, none beaten", suite("01234"), 3, 8, 6, 4, 2, 0);
        scores("all margins 0", suite(OPPOSITE), 3, 4, 4, 4, 4, 4);
        scores("no ballots", suite(), 3, 4, 4, 4, 4, 4);
        scores("one margin 0", suite(HALF_AND_HALF), 3, 7, 7, 4, 2, 0);

        says("its smallest margin over another one");
        scores("nine the same", suite("9*01234"), 4, 9, -9, -9, -9, -9);
        scores("all margins 0", suite(OPPOSITE), 4, 0, 0, 0, 0, 0);
        scores("no ballots", suite(), 4, 0, 0, 0, 0, 0);

        says("the smallest number such that some candidate is among the first k on more than half of the ballots");
        scores("5 of 9: k is 1", suite(LEAD_BY_ONE), 5, 5, 4, 0, 0, 0);
        scores("4 of 9: k is 2", suite("4*01234", "4*10234", "23410"), 5, 8, 8, 1, 1, 0);
        scores("5 of 8: k is 1", suite("5*01234", "3*10234"), 5, 5, 3, 0, 0, 0);
        scores("4 of 8, just half: k is 2", suite(HALF_AND_HALF), 5, 8, 8, 0, 0, 0);
        scores("1 of 1: k is 1", suite("43210"), 5, 0, 0, 0, 0, 1);
        scores("1 of 2 twice: k is 3", suite(OPPOSITE), 5, 1, 1, 2, 1, 1);

        says("(5 without ballots)");
        scores("no ballots", suite(), 5, 0, 0, 0, 0, 0);
        due("winners(5) without ballots", suite().winners(5), 31);
    }

    private static void eliminations() {
        says("as long as more than one is, one of those that are first on the fewest ballots goes");
        due("two left, 5 to 4", suite(LEAD_BY_ONE).winners(6), 1);
        due("two left, 4 to 4", suite(HALF_AND_HALF).winners(6), 3);
        due("never first", suite("9*43210").winners(6), 16);

        says("the winners are all that can be left at the end");
        // Two firsts each. If 0 or 2 goes, 1 gets four; if 1 goes, 0 does.
        due("winners(6)", suite("2*01234", "2*10234", "2*21034").winners(6), 3);
        due("all equal", suite().winners(6), 31);

        says("likewise, but one of those goes that are last on the most ballots");
        // 4 and 3 go, then 0, 1 and 2 are each last once. If 0 goes, 2 is left; if 1 or 2 goes, 0.
        due("winners(7)", suite("21034", "02134", "01234").winners(7), 5);
        due("two left, 5 to 4", suite(LEAD_BY_ONE).winners(7), 1);
        due("two left, 4 to 4", suite(HALF_AND_HALF).winners(7), 3);
        due("all equal", suite().winners(7), 31);

        says("likewise, but one of those with the fewest points");
        // Among 0, 1 and 2 the points are 11, 8 and 8. If 1 goes, 2 beats 0; if 2 goes, 0 beats 1.
        due("winners(8)", suite("4*01234", "2*12034", "3*20134").winners(8), 5);
        due("two left, 5 to 4", suite(LEAD_BY_ONE).winners(8), 1);
        due("two left, 4 to 4", suite(HALF_AND_HALF).winners(8), 3);
        due("all equal", suite().winners(8), 31);
    }

    private static void waysAndCouples() {
        // Each beats the next one by 3 and the one after that by 1.
        String[] round = {"01234", "12340", "23401", "34012", "40123"};
        says("a list of candidates from a to b, each of which beats the next one");
        due("a way over all five", suite(round).strength(0, 4), 3);
        due("a way of two", suite(round).strength(4, 0), 3);
        due("no step with the margin 0", suite("01234", "12034").strength(0, 2), 0);

        says("its strength is its smallest margin");
        // 0 beats 1 by 3, 1 beats 2 by 5, 2 beats 0 by 1.
        String[] cycle = {"4*01234", "3*12034", "2*20134"};
        due("strength(0, 2): 3 and 5", suite(cycle).strength(0, 2), 3);
        due("strength(1, 0): 5 and 1", suite(cycle).strength(1, 0), 1);
        due("strength(2, 1): 1 and 3", suite(cycle).strength(2, 1), 1);
        due("the greatest", suite("9*01234").strength(0, 4), 9);

        says("the greatest strength of a way (0 if there is none)");
        // 0 beats 2 by 1, but 1 by 3, which beats 2 by 3.
        due("longer, but stronger", suite("3*01234", "12034", "20134").strength(0, 2), 3);
        due("longer, but stronger, all round", suite(round).strength(0, 2), 3);
        due("none", suite("9*01234").strength(4, 0), 0);
        due("none without ballots", suite().strength(0, 1), 0);

        says("the winners are those a with S(a, b) at least S(b, a) for all others b");
        due("equal strengths", suite(round).winners(9), 31);
        due("one less", suite(cycle).winners(9), 1);
        due("no ways at all", suite(OPPOSITE).winners(9), 31);
        due("no ballots", suite().winners(9), 31);

        says("those with greater margins first");
        due("the weakest one closes the cycle", suite(cycle).winners(10), 1);

        says("(a, b) is KEPT unless from b one comes to a over kept couples");
        due("a way back over all five", suite(round).winners(10), 31);
        due("no way back", suite("9*01234").winners(10), 1);

        says("with some order of couples with equal margins, are b in no kept couple");
        // 0 beats 1 by 3; 1 beats 2 and 2 beats 0 by 1. Whichever of these comes last is not kept.
        due("two equal", suite("2*01234", "12034", "2*20134").winners(10), 5);
        due("three equal", suite("01234", "12034", "20134").winners(10), 7);
        due("the margin 0 is no couple", suite("01234", "12034").winners(10), 3);
        due("no couples", suite(OPPOSITE).winners(10), 31);
        due("no ballots", suite().winners(10), 31);
    }

    private static void setsByVictories() {
        // 1 beats 2, 2 beats 0, and 0 and 1 have the margin 0.
        String[] gap = {"2*12034", "01234", "20134"};
        says("the smallest set of candidates that is not empty and of which each beats all outside it");
        due("one", suite("43210").winners(11), 16);
        due("three, with a margin of 0 among them", suite(gap).winners(11), 7);
        due("four", suite("01234", "23014").winners(11), 15);
        due("the margin 0 does not do: all", suite(OPPOSITE).winners(11), 31);
        due("no ballots: all", suite().winners(11), 31);

        says("one comes from a to b in that way, too");
        // 1 comes to 2 and over it to 0, and nobody back to 1.
        due("no way back", suite(gap).winners(12), 2);
        due("a way back", suite("01234", "12034", "20134").winners(12), 7);
        due("nobody comes to anybody", suite(OPPOSITE).winners(12), 31);
        due("no ballots", suite().winners(12), 31);

        says("those a such that no b beats a, and besides beats all that a beats");
        // 1 beats 2, but 2 beats 0 and 1 does not; 2 beats 0 and all that 0 beats.
        due("beaten, but not all that it beats", suite(gap).winners(13), 6);
        due("each beaten by another one", suite("01234", "12034", "20134").winners(13), 7);
        due("nobody beaten", suite(OPPOSITE).winners(13), 31);
        due("all beaten by one", suite("43210").winners(13), 16);
        due("no ballots", suite().winners(13), 31);

        says("each of which beats all behind it, such that no other candidate beats all in it");
        // 2, 0, 3, 4 can't be made longer by 1, which does not beat 0; what starts with 0 is made longer by 2.
        due("not longer by the margin 0", suite(gap).winners(14), 6);
        due("each made longer but for a cycle", suite("01234", "12034", "20134").winners(14), 7);
        // 1 beats 0 and 3, 2 beats 0 and 4, and 0 beats 3 and 4. These two have the margin 0, so no chain holds both,
        // and one with 0 in front is made longer by 1 or 2.
        due("no chain over the margin 0", suite("31204", "20413", "41032", "21034").winners(14), 6);
        due("chains of one", suite(OPPOSITE).winners(14), 31);
        due("a chain of five", suite("43210").winners(14), 16);
        due("no ballots", suite().winners(14), 31);
    }

    private static void swapsAndRemovals() {
        says("those with the fewest SWAPS");
        due("equal numbers", suite(OPPOSITE).winners(15), 31);
        due("0 swaps", suite("9*43210").winners(15), 16);
        due("one less", suite("01234", "12034").winners(15), 2);

        says("those with the fewest REMOVALS");
        due("equal numbers, and some without one", suite(OPPOSITE).winners(16), 17);
        due("0 removals", suite("9*43210").winners(16), 16);

        says("(all candidates, if none has a number of them)");
        due("winners(15)", suite().winners(15), 31);
        due("winners(16)", suite().winners(16), 31);

        says("the smallest number of exchanges of neighbours on ballots after which it beats all others");
        numbers("none, and the most", suite("9*01234")::swaps, 0, 5, 10, 15, 20);
        numbers("eight", suite("8*01234")::swaps, 0, 5, 10, 15, 20);
        numbers("the margin 0 does not do", suite(HALF_AND_HALF)::swaps, 1, 1, 10, 15, 20);
        numbers("the margin 1 does", suite(LEAD_BY_ONE)::swaps, 0, 1, 10, 15, 20);
        numbers("all of two ballots", suite(OPPOSITE)::swaps, 4, 4, 4, 4, 4);
        // The one exchange on the first ballot can't be made twice.
        due("each exchange on one ballot", suite("01234", "02134", "03124").swaps(1), 3);

        says("the smallest number of ballots, not all, that must be taken away so that it beats all others");
        numbers("none, and all don't help", suite("9*01234")::removals, 0, NONE, NONE, NONE, NONE);
        numbers("all but one", suite("8*01234", "43210")::removals, 0, NONE, NONE, NONE, 8);
        numbers("the margin 0 does not do", suite(HALF_AND_HALF)::removals, 1, 1, NONE, NONE, NONE);
        numbers("the margin 1 does", suite(LEAD_BY_ONE)::removals, 0, 2, NONE, NONE, NONE);
        numbers("not the only one", suite("01234")::removals, 0, NONE, NONE, NONE, NONE);
        numbers("nowhere first", suite("01234", "21034", "41230")::removals, 2, 0, 2, NONE, 2);
    }

    // ---- Promise 1

    private static void newObject() {
        says("No ballots.");
        VotingSuite other = first(9);
        VotingSuite x = new VotingSuite();
        due("ballots()", x.ballots(), 0);
        due("order(0)", x.order(0), BAD);
        due("drop(0)", x.drop(0), BAD);
        due("leader()", x.leader(), NONE);
        due("gain(0, 0)", x.gain(0, 0), BAD);
        for (int rule = 0; rule <= 16; rule++) {
            due("winners(" + rule + ")", x.winners(rule), 31);
        }
        for (int a = 0; a < 5; a++) {
            due("swaps(" + a + ")", x.swaps(a), NONE);
            due("removals(" + a + ")", x.removals(a), NONE);
            for (int b = 0; b < 5; b++) {
                due("margin(" + a + ", " + b + ")", x.margin(a, b), 0);
                due("strength(" + a + ", " + b + ")", x.strength(a, b), 0);
            }
        }
        due("ballots() of an object made before", other.ballots(), 9);
    }

    // ---- Promise 2

    private static void ballot() {
        says("9 are there: FULL");
        due("the ninth", first(8).ballot(194), 9);
        refused("ballot(194) as the tenth", first(9), x -> x.ballot(194), FULL);
        VotingSuite again = first(9);
        again.drop(8);
        due("room again", again.ballot(194), 9);
        due("and full again", again.ballot(194), FULL);

        says("order outside 0..3124");
        int[] outside = {-1, 3125, -194, -2930, 194 - 3125, 194 + 3125, 2930 + 3125, 194 + 65536, 2930 + 65536,
            MIN, MIN + 1, MAX - 1, MAX};
        for (int n = 0; n <= 8; n++) {
            for (int order : outside) {
                refused("ballot(" + order + ")", first(n), x -> x.ballot(order), BAD);
            }
        }

        says("or its five digits not all different: BAD");
        refused("ballot(0), the least inside", first(8), x -> x.ballot(0), BAD);
        refused("ballot(3124), the greatest inside", first(8), x -> x.ballot(3124), BAD);
        for (int p = 0; p < 5; p++) {
            for (int q = 0; q < 5; q++) {
                // Only the digits at p and q are equal.
                String vote = "01234".substring(0, p) + q + "01234".substring(p + 1);
                if (p != q) {
                    refused("ballot " + vote, first(3), x -> x.ballot(code(vote)), BAD);
                }
            }
        }
        for (int order = 0; order <= 3124; order++) {
            boolean fine = digits(order).chars().distinct().count() == 5;
            due("ballot(" + order + ")", new VotingSuite().ballot(order), fine ? 1 : BAD);
        }
        due("ballot(194), the least order", new VotingSuite().ballot(194), 1);
        due("ballot(2930), the greatest order", new VotingSuite().ballot(2930), 1);

        says("Tested in this order");
        for (int order : new int[] {-1, 0, 3124, 3125, MIN, MAX}) {
            refused("ballot(" + order + ") as the tenth", first(9), x -> x.ballot(order), FULL);
        }

        says("Else answers the number of ballots.");
        VotingSuite x = new VotingSuite();
        for (int n = 1; n <= 9; n++) {
            due("ballot", x.ballot(code(NINE[n - 1])), n);
            due("it is the last one", x.order(n - 1), code(NINE[n - 1]));
        }
    }

    // ---- Promise 3

    private static void drop() {
        says("Takes ballot i out; later ones move one down.");
        for (int n = 1; n <= 9; n++) {
            for (int i = 0; i < n; i++) {
                VotingSuite x = first(n);
                x.drop(i);
                StringBuilder left = new StringBuilder();
                for (int k = 0; k < n; k++) {
                    left.append(k == i ? "" : NINE[k] + " ");
                }
                String[] rest = left.toString().trim().split(" ");
                VotingSuite fresh = n == 1 ? suite() : suite(rest);
                due("drop(" + i + ") of " + n, allAnswers(x).equals(allAnswers(fresh)), true);
            }
        }

        says("There is none: BAD.");
        for (int n = 0; n <= 9; n++) {
            int behind = n;
            refused("drop(-1) of " + n, first(n), x -> x.drop(-1), BAD);
            refused("drop(" + n + ") of " + n, first(n), x -> x.drop(behind), BAD);
            for (int i : FAR_OUT) {
                refused("drop(" + i + ") of " + n, first(n), x -> x.drop(i), BAD);
            }
        }
        VotingSuite shrunk = first(9);
        shrunk.drop(0);
        refused("drop(8) after a drop", shrunk, x -> x.drop(8), BAD);

        says("Else answers the number left.");
        VotingSuite front = first(9), back = first(9);
        for (int n = 8; n >= 0; n--) {
            due("drop(0)", front.drop(0), n);
            due("drop(" + n + ")", back.drop(n), n);
        }
    }

    // ---- Promise 4

    private static void order() {
        says("A ballot's order; BAD if there is none.");
        for (int n = 0; n <= 9; n++) {
            VotingSuite x = first(n);
            for (int i = 0; i < n; i++) {
                due("order(" + i + ") of " + n, x.order(i), code(NINE[i]));
            }
            for (int i = n; i <= 10; i++) {
                due("order(" + i + ") of " + n, x.order(i), BAD);
            }
            due("order(-1) of " + n, x.order(-1), BAD);
            for (int i : FAR_OUT) {
                due("order(" + i + ") of " + n, x.order(i), BAD);
            }
        }
        VotingSuite shrunk = first(9);
        shrunk.drop(8);
        due("order(8) after drop(8)", shrunk.order(8), BAD);
    }

    // ---- Promises 5 and 8

    private static void margin() {
        says("The margin of a over b; 0 for a = b, and for one outside 0..4.");
        VotingSuite x = suite("9*01234");
        for (int a = 0; a < 5; a++) {
            for (int b = 0; b < 5; b++) {
                due("margin(" + a + ", " + b + ")", x.margin(a, b), 9 * Integer.compare(b, a));
            }
        }
        zeroOutside("margin", x::margin);
    }

    private static void strength() {
        says("S(a, b) of rule 9; 0 for a = b, and for one outside 0..4.");
        // From each candidate a way leads to all others and back to itself.
        VotingSuite x = suite("01234", "12340", "23401", "34012", "40123");
        for (int a = 0; a < 5; a++) {
            for (int b = 0; b < 5; b++) {
                due("strength(" + a + ", " + b + ")", x.strength(a, b), a == b ? 0 : 3);
            }
        }
        zeroOutside("strength", x::strength);
    }

    private static void zeroOutside(String name, Pairwise call) {
        for (int c = 0; c < 5; c++) {
            for (int out : new int[] {-1, 5, -5, 9, 24}) {
                due(name + "(" + c + ", " + out + ")", call.of(c, out), 0);
                due(name + "(" + out + ", " + c + ")", call.of(out, c), 0);
            }
            for (int out : FAR_OUT) {
                due(name + "(" + c + ", " + out + ")", call.of(c, out), 0);
                due(name + "(" + out + ", " + c + ")", call.of(out, c), 0);
            }
        }
        for (int out : FAR_OUT) {
            due(name + "(" + out + ", " + out + ")", call.of(out, out), 0);
        }
        // These pairs lie where (0, 1) and (3, 4) would, if places in a table of five by five were looked up unseen.
        due(name + "(1, -4)", call.of(1, -4), 0);
        due(name + "(-1, 6)", call.of(-1, 6), 0);
        due(name + "(2, 9)", call.of(2, 9), 0);
        due(name + "(4, -1)", call.of(4, -1), 0);
    }

    // ---- Promise 6

    private static void winners() {
        says("rule outside 0..16: BAD.");
        int[] inside = {1, 15, 1, 1, 1, 1, 1, 1, 1, 1, 1, 1, 1, 1, 1, 1, 1};
        for (int n : new int[] {0, 1, 9}) {
            VotingSuite x = suite(n + "*01234");
            for (int rule = 0; rule <= 16; rule++) {
                due("winners(" + rule + ") of " + n, x.winners(rule), n == 0 ? 31 : inside[rule]);
            }
            for (int rule : new int[] {-1, 17, -2, 18}) {
                due("winners(" + rule + ") of " + n, x.winners(rule), BAD);
            }
            for (int rule : FAR_OUT) {
                due("winners(" + rule + ") of " + n, x.winners(rule), BAD);
            }
        }

        says("as a set (bit c for candidate c)");
        due("only 0", suite("01234").winners(0), 1);
        due("only 4", suite("43210").winners(0), 16);
        due("all", suite().winners(0), 31);
    }

    // ---- Promise 7

    private static void score() {
        says("rule outside 0..5");
        VotingSuite x = suite("9*01234");
        int[] inside = {9, 0, 36, 8, 9, 9};
        for (int rule = 0; rule <= 5; rule++) {
            due("score(" + rule + ", 0)", x.score(rule, 0), inside[rule]);
        }
        for (int c = 0; c <= 4; c++) {
            for (int rule = 6; rule <= 17; rule++) {
                due("score(" + rule + ", " + c + ")", x.score(rule, c), BAD);
            }
            due("score(-1, " + c + ")", x.score(-1, c), BAD);
            for (int rule : FAR_OUT) {
                due("score(" + rule + ", " + c + ")", x.score(rule, c), BAD);
            }
        }

        says("or c outside 0..4: BAD.");
        int[] last = {0, -9, 0, 0, -9, 0};
        for (int rule = 0; rule <= 5; rule++) {
            due("score(" + rule + ", 4)", x.score(rule, 4), last[rule]);
            due("score(" + rule + ", 5)", x.score(rule, 5), BAD);
            due("score(" + rule + ", -1)", x.score(rule, -1), BAD);
            due("score(" + rule + ", 5) without ballots", suite().score(rule, 5), BAD);
            for (int c : FAR_OUT) {
                due("score(" + rule + ", " + c + ")", x.score(rule, c), BAD);
            }
        }
    }

    // ---- Promises 9 and 10

    private static void swaps() {
        says("The swaps of a candidate. c outside 0..4: BAD");
        badOutside("swaps", suite("9*01234")::swaps);
        badOutside("swaps without ballots", suite()::swaps);

        says("there are none that help (without ballots): NONE");
        numbers("no ballots", suite()::swaps, NONE, NONE, NONE, NONE, NONE);
        numbers("one ballot", suite("01234")::swaps, 0, 1, 2, 3, 4);
        VotingSuite emptied = suite("01234");
        emptied.drop(0);
        numbers("emptied", emptied::swaps, NONE, NONE, NONE, NONE, NONE);
    }

    private static void removals() {
        says("The removals of a candidate. c outside 0..4: BAD");
        badOutside("removals", suite("9*01234")::removals);
        badOutside("removals without ballots", suite()::removals);

        says("there are none that help: NONE.");
        numbers("no ballots", suite()::removals, NONE, NONE, NONE, NONE, NONE);
        numbers("one ballot", suite("40123")::removals, NONE, NONE, NONE, NONE, 0);
        numbers("nine", suite("9*40123")::removals, NONE, NONE, NONE, NONE, 0);
        numbers("two opposite", suite(OPPOSITE)::removals, 1, NONE, NONE, NONE, 1);
        VotingSuite emptied = suite("01234");
        emptied.drop(0);
        numbers("emptied", emptied::removals, NONE, NONE, NONE, NONE, NONE);
    }

    private static void badOutside(String name, Single call) {
        for (int c : new int[] {-1, 5, -5, 9}) {
            due(name + "(" + c + ")", call.of(c), BAD);
        }
        for (int c : FAR_OUT) {
            due(name + "(" + c + ")", call.of(c), BAD);
        }
    }

    // ---- Promise 11

    private static void leader() {
        says("The candidate that beats all others; NONE if there is none.");
        due("0", suite("9*01234").leader(), 0);
        due("4", suite("9*43210").leader(), 4);
        due("by 1", suite(LEAD_BY_ONE).leader(), 0);
        due("not by 0", suite(HALF_AND_HALF).leader(), NONE);
        due("three of the four others", suite("4*01234", "4*40123").leader(), NONE);
        due("a cycle", suite("01234", "12034", "20134").leader(), NONE);
        due("no ballots", suite().leader(), NONE);
    }

    // ---- Promise 12

    private static void gain() {
        says("The smallest order with which ballot i could be replaced");
        // 1 has two firsts: with 0 in front, whatever comes behind it, ballot 0 makes it two for 0 as well.
        due("the least order", suite("40123", "01234", "2*10234").gain(0, 0), 194);
        // 4 gets 4 points only if 0, 1, 2 and 3 get at most 0, 1, 2 and 3 from ballot 0.
        due("the greatest order", suite("41320", "01234").gain(2, 0), 2930);
        for (int rule = 9; rule <= 14; rule++) {
            due("the last ballot, rule " + rule, suite(BREAKABLE).gain(rule, 8), code("12034"));
        }

        says("the best winner by a rule, as ballot i was before");
        // 0 wins whatever the last one does; putting it in front would only seem to help.
        for (int rule = 0; rule <= 14; rule++) {
            due("gain(" + rule + ", 8)", suite("8*01234", "43210").gain(rule, 8), NONE);
        }
        // All but 4 win, and the best of them is in front; with another one last, only worse ones would win no more.
        due("several winners", suite("2*01234").gain(1, 1), NONE);

        says("is better (nearer to its front) than it is now");
        // 2 wins with three firsts; ballot 0 can lift 1 to three as well, but not 0.
        VotingSuite x = suite("01234", "2*12034", "3*20134");
        due("better by one place", x.gain(0, 0), code("10234"));
        due("in front already", x.gain(0, 3), NONE);
        // 2 has four firsts, and one ballot more gives 1 no more than two and 0 no more than three.
        due("just as good is not better", suite("10234", "2*01234", "4*20134").gain(0, 0), NONE);

        says("could be replaced");
        VotingSuite kept = suite(BREAKABLE);
        String before = allAnswers(kept);
        for (int rule = 0; rule <= 14; rule++) {
            for (int i = 0; i < 9; i++) {
                kept.gain(rule, i);
                due("gain(" + rule + ", " + i + ") leaves all", allAnswers(kept).equals(before), true);
            }
        }
    }

    private static void gainRefused() {
        says("rule outside 0..14");
        VotingSuite x = suite(BREAKABLE);
        due("rule 0, the first inside", suite("40123", "01234", "2*10234").gain(0, 0), 194);
        due("rule 14, the last inside", x.gain(14, 8), code("12034"));
        for (int i = 0; i < 9; i++) {
            int ballot = i;
            for (int rule : new int[] {-1, 15, 16, 17}) {
                refused("gain(" + rule + ", " + i + ")", x, y -> y.gain(rule, ballot), BAD);
            }
            for (int rule : FAR_OUT) {
                refused("gain(" + rule + ", " + i + ")", x, y -> y.gain(rule, ballot), BAD);
            }
        }

        says("or there is no ballot i: BAD");
        for (int n = 0; n <= 9; n++) {
            int behind = n;
            for (int rule = 0; rule <= 14; rule++) {
                int known = rule;
                refused("gain(" + rule + ", -1) of " + n, first(n), y -> y.gain(known, -1), BAD);
                refused("gain(" + rule + ", " + n + ") of " + n, first(n), y -> y.gain(known, behind), BAD);
            }
            for (int i : FAR_OUT) {
                refused("gain(0, " + i + ") of " + n, first(n), y -> y.gain(0, i), BAD);
            }
        }
        VotingSuite shrunk = first(9);
        shrunk.drop(0);
        refused("gain(0, 8) after a drop", shrunk, y -> y.gain(0, 8), BAD);

        says("there is none: NONE.");
        for (int n : new int[] {1, 9}) {
            for (int rule = 0; rule <= 14; rule++) {
                due("gain(" + rule + ", 0) of " + n, suite(n + "*43210").gain(rule, 0), NONE);
                due("gain(" + rule + ", last) of " + n, suite(n + "*43210").gain(rule, n - 1), NONE);
            }
        }
    }

    // ---- Promise 13

    private static void agree() {
        says("Whether two rules have the same winners");
        VotingSuite x = suite("9*01234");
        for (int rule = 0; rule <= 16; rule++) {
            for (int other = 0; other <= 16; other++) {
                // By rule 1 all but the last one win, by all others the first one.
                due("agree(" + rule + ", " + other + ")", x.agree(rule, other), (rule == 1) == (other == 1));
                due("agree(" + rule + ", " + other + ") without ballots", suite().agree(rule, other), true);
            }
        }

        says("false for a rule outside 0..16.");
        for (VotingSuite y : new VotingSuite[] {x, suite()}) {
            for (int out : new int[] {-1, 17, -2, 18}) {
                falseOutside(y, out);
            }
            for (int out : FAR_OUT) {
                falseOutside(y, out);
            }
            due("agree(-1, 17)", y.agree(-1, 17), false);
            due("agree(17, -1)", y.agree(17, -1), false);
        }
    }

    private static void falseOutside(VotingSuite x, int out) {
        for (int rule = 0; rule <= 16; rule++) {
            due("agree(" + rule + ", " + out + ")", x.agree(rule, out), false);
            due("agree(" + out + ", " + rule + ")", x.agree(out, rule), false);
        }
        due("agree(" + out + ", " + out + ")", x.agree(out, out), false);
    }

    // ---- Promises 14 and 15

    private static void ballots() {
        says("The number of ballots.");
        for (int n = 0; n <= 9; n++) {
            due("ballots()", first(n).ballots(), n);
        }
        VotingSuite x = first(9);
        x.ballot(194);
        due("ballots() after FULL", x.ballots(), 9);
        x.drop(9);
        due("ballots() after BAD", x.ballots(), 9);
        for (int n = 8; n >= 0; n--) {
            x.drop(0);
            due("ballots() after drop", x.ballots(), n);
        }
        x.drop(0);
        due("ballots() after BAD, emptied", x.ballots(), 0);
    }

    private static void orderAndLimits() {
        says("By rule 15, too, all candidates win if none has a number of swaps (without ballots).");
        due("new", new VotingSuite().winners(15), 31);
        due("new, as rule 16", new VotingSuite().agree(15, 16), true);
        VotingSuite x = suite("20134");
        due("with a ballot", x.winners(15), 4);
        x.drop(0);
        due("emptied", x.winners(15), 31);
        VotingSuite nine = first(9);
        for (int n = 9; n > 0; n--) {
            for (int c = 0; c < 5; c++) {
                due("with " + n + " there is a number for " + c, nine.swaps(c) >= 0, true);
            }
            nine.drop(0);
        }
        due("emptied from nine", nine.winners(15), 31);
    }

    // ---- LANGUAGE.md

    private static void language() {
        says("No call may ever throw or fail to end, for any arguments in any state");
        int[] values = {MIN, MIN + 1, -858993459, -65536, -3125, -1002, -28, -5, -2, -1, 0, 1, 4, 5, 6, 8, 9, 10, 14,
            15, 16, 17, 24, 25, 31, 32, 194, 2930, 3124, 3125, 65536, 858993460, MAX - 1, MAX};
        for (int n = 0; n <= 9; n++) {
            // The runs are longer than 512 calls: what is answered then is free, but nothing may be thrown.
            VotingSuite x = first(n);
            for (int a : values) {
                due("calls with " + a + " throw nothing", throwsNothing(() -> oneArgument(x, a)), true);
                for (int b : values) {
                    Runnable calls = () -> twoArguments(x, a, b);
                    due("calls with " + a + ", " + b + " throw nothing", throwsNothing(calls), true);
                }
            }
        }
    }

    private static void oneArgument(VotingSuite x, int a) {
        x.ballot(a);
        x.drop(a);
        x.order(a);
        x.winners(a);
        x.swaps(a);
        x.removals(a);
        x.leader();
        x.ballots();
    }

    private static void twoArguments(VotingSuite x, int a, int b) {
        x.margin(a, b);
        x.score(a, b);
        x.strength(a, b);
        x.gain(a, b);
        x.agree(a, b);
    }

    // ---- elections

    // A vote may be written with how many cast it in front: "4*01234".
    private static VotingSuite suite(String... votes) {
        VotingSuite x = new VotingSuite();
        for (String vote : votes) {
            int star = vote.indexOf('*');
            int times = star < 0 ? 1 : Integer.parseInt(vote.substring(0, star));
            for (int n = 0; n < times; n++) {
                x.ballot(code(vote.substring(star + 1)));
            }
        }
        return x;
    }

    private static VotingSuite first(int ballots) {
        VotingSuite x = new VotingSuite();
        for (int i = 0; i < ballots; i++) {
            x.ballot(code(NINE[i]));
        }
        return x;
    }

    private static VotingSuite withOrder(int order) {
        VotingSuite x = new VotingSuite();
        x.ballot(order);
        return x;
    }

    private static int code(String vote) {
        return Integer.parseInt(vote, 5);
    }

    private static String digits(int order) {
        String five = "0000" + Integer.toString(order, 5);
        return five.substring(five.length() - 5);
    }

    // ---- checks

    private interface Single {
        int of(int a);
    }

    private interface Pairwise {
        int of(int a, int b);
    }

    private interface Call {
        int on(VotingSuite x);
    }

    private static void says(String words) {
        sentence = words;
        sentences++;
    }

    private static void scores(String name, VotingSuite x, int rule, int... want) {
        numbers(name + ", rule " + rule, c -> x.score(rule, c), want);
    }

    private static void numbers(String name, Single call, int... want) {
        for (int c = 0; c < 5; c++) {
            due(name + ": candidate " + c, call.of(c), want[c]);
        }
    }

    // The call must be refused with this answer, and all other answers must be as they were.
    private static void refused(String call, VotingSuite x, Call made, int want) {
        String before = allAnswers(x);
        due(call, made.on(x), want);
        due(call + " changes nothing", allAnswers(x).equals(before), true);
    }

    private static String allAnswers(VotingSuite x) {
        StringBuilder all = new StringBuilder().append(x.ballots()).append(' ').append(x.leader());
        for (int i = 0; i < 9; i++) {
            all.append(' ').append(x.order(i));
        }
        for (int rule = 0; rule <= 16; rule++) {
            all.append(' ').append(x.winners(rule));
        }
        for (int a = 0; a < 5; a++) {
            all.append(' ').append(x.swaps(a)).append(' ').append(x.removals(a));
            for (int b = 0; b < 5; b++) {
                all.append(' ').append(x.margin(a, b)).append(' ').append(x.strength(a, b));
            }
            for (int rule = 0; rule <= 5; rule++) {
                all.append(' ').append(x.score(rule, a));
            }
        }
        return all.toString();
    }

    // A call that doesn't end would hold up .ci/run instead of failing it.
    private static void watchForCallsWithoutEnd() {
        Thread watch = new Thread(() -> {
            try {
                Thread.sleep(LONGEST_MILLIS);
            } catch (InterruptedException stopped) {
                return;
            }
            System.out.println("\"" + sentence + "\": a call does not end");
            Runtime.getRuntime().halt(1);
        });
        watch.setDaemon(true);
        watch.start();
    }

    private static boolean throwsNothing(Runnable calls) {
        try {
            calls.run();
            return true;
        } catch (RuntimeException | Error thrown) {
            System.out.println(thrown);
            return false;
        }
    }

    private static void due(String call, boolean got, boolean want) {
        due(call, got ? 1 : 0, want ? 1 : 0);
    }

    private static void due(String call, int got, int want) {
        checked++;
        if (got != want) {
            wrong++;
            System.out.println("\"" + sentence + "\": " + call + " answered " + got + ", due is " + want);
        }
    }
}
