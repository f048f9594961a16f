// Examples worked by hand from the document, promise by promise: ordinary calls, the edges it names, wrong arguments.
public final class PromiseTest {
    private static final int BAD = -1000, FULL = -1001, NONE = -1002;
    private static final int FIRST_WRONG_RULE = 17;

    // 1 beats all others, but few have it first.
    private static final String[] SQUEEZE = {"01234", "01234", "21034", "21034", "10234"};
    // 0 beats 1 by 3, 1 beats 2 by 5, 2 beats 0 by 1.
    private static final String[] CYCLE =
        {"01234", "01234", "01234", "01234", "12034", "12034", "12034", "20134", "20134"};
    // 1 beats 2, and 0 has the margin 0 over both.
    private static final String[] TIED = {"01234", "12034"};
    // 0 has most firsts, but 1 most points while all are there.
    private static final String[] POINTS = {"01234", "01234", "01234", "12340", "12340"};

    private static String promise = "";
    private static int wrong = 0;
    private static int checked = 0;

    public static void main(String[] args) {
        newObject();
        ballot();
        drop();
        order();
        margin();
        winners();
        score();
        strength();
        swaps();
        removals();
        leader();
        gain();
        agree();
        ballots();
        orderAndLimits();
        System.out.println(checked + " answers checked, " + wrong + " are wrong");
        if (wrong != 0) {
            System.exit(1);
        }
    }

    private static void newObject() {
        promise = "1 A new object";
        VotingSuite x = new VotingSuite();
        due("BAD", VotingSuite.BAD, BAD);
        due("FULL", VotingSuite.FULL, FULL);
        due("NONE", VotingSuite.NONE, NONE);
        due("ballots()", x.ballots(), 0);
        due("order(0)", x.order(0), BAD);
        due("drop(0)", x.drop(0), BAD);
        due("margin(0, 1)", x.margin(0, 1), 0);
        due("leader()", x.leader(), NONE);
        suite(SQUEEZE);
        due("ballots() of another object", x.ballots(), 0);
    }

    private static void ballot() {
        promise = "2 ballot";
        VotingSuite x = new VotingSuite();
        int[] bad = {-1, 0, 1, 193, 195, 3124, 3125, 3319, -194, Integer.MIN_VALUE, Integer.MAX_VALUE};
        for (int order : bad) {
            due("ballot(" + order + ")", x.ballot(order), BAD);
        }
        due("ballots() after BAD", x.ballots(), 0);
        due("the smallest order", x.ballot(194), 1);
        due("the greatest order", x.ballot(2930), 2);
        due("a digit twice", x.ballot(code("01231")), BAD);
        due("a leading digit twice", x.ballot(code("44321")), BAD);
        for (int n = 3; n <= 9; n++) {
            due("ballot(694)", x.ballot(694), n);
        }
        due("the tenth", x.ballot(194), FULL);
        due("FULL before BAD", x.ballot(-1), FULL);
        due("FULL before BAD, digits", x.ballot(0), FULL);
        due("ballots() after FULL", x.ballots(), 9);
        due("order(8) after FULL", x.order(8), 694);
        x.drop(4);
        due("room again", x.ballot(194), 9);
        int orders = 0;
        for (int order = 0; order < 3125; order++) {
            VotingSuite one = new VotingSuite();
            orders += one.ballot(order) == 1 && one.order(0) == order ? 1 : 0;
        }
        due("how many orders there are", orders, 120);
    }

    private static void drop() {
        promise = "3 drop";
        VotingSuite x = suite("01234", "10234", "20134", "30124");
        due("drop(4)", x.drop(4), BAD);
        due("drop(-1)", x.drop(-1), BAD);
        due("drop(max)", x.drop(Integer.MAX_VALUE), BAD);
        due("drop(min)", x.drop(Integer.MIN_VALUE), BAD);
        due("ballots() after BAD", x.ballots(), 4);
        due("drop(1)", x.drop(1), 3);
        due("the one before", x.order(0), code("01234"));
        due("the next one", x.order(1), code("20134"));
        due("the last one", x.order(2), code("30124"));
        due("behind the last one", x.order(3), BAD);
        due("margin(0, 1)", x.margin(0, 1), 3);
        due("margin(0, 3)", x.margin(0, 3), 1);
        due("drop(2), the last one", x.drop(2), 2);
        due("drop(0)", x.drop(0), 1);
        due("order(0)", x.order(0), code("20134"));
        due("leader()", x.leader(), 2);
        due("drop(0), the only one", x.drop(0), 0);
        due("leader() without ballots", x.leader(), NONE);
        due("margin(2, 0) without ballots", x.margin(2, 0), 0);
        due("drop(0) without ballots", x.drop(0), BAD);
        VotingSuite full = suite(CYCLE);
        due("drop(0) of nine", full.drop(0), 8);
        due("order(7)", full.order(7), code("20134"));
        due("order(8)", full.order(8), BAD);
    }

    private static void order() {
        promise = "4 order";
        VotingSuite x = suite("43210", "01234", "21430");
        due("order(0)", x.order(0), 2930);
        due("order(1)", x.order(1), 194);
        due("order(2)", x.order(2), 2 * 625 + 125 + 4 * 25 + 3 * 5);
        due("order(3)", x.order(3), BAD);
        due("order(-1)", x.order(-1), BAD);
        due("order(max)", x.order(Integer.MAX_VALUE), BAD);
        due("order(min)", x.order(Integer.MIN_VALUE), BAD);
    }

    private static void margin() {
        promise = "5 margin";
        VotingSuite x = suite(CYCLE);
        due("margin(0, 1)", x.margin(0, 1), 3);
        due("margin(1, 0)", x.margin(1, 0), -3);
        due("margin(1, 2)", x.margin(1, 2), 5);
        due("margin(2, 0)", x.margin(2, 0), 1);
        due("margin(3, 4)", x.margin(3, 4), 9);
        due("margin(4, 2)", x.margin(4, 2), -9);
        due("margin(2, 2)", x.margin(2, 2), 0);
        due("margin(0, 5)", x.margin(0, 5), 0);
        due("margin(5, 0)", x.margin(5, 0), 0);
        due("margin(-1, 4)", x.margin(-1, 4), 0);
        due("margin(4, -1)", x.margin(4, -1), 0);
        due("margin(max, min)", x.margin(Integer.MAX_VALUE, Integer.MIN_VALUE), 0);
        due("margin(0, 1) of a tie", suite(TIED).margin(0, 1), 0);
    }

    private static void winners() {
        promise = "6 winners";
        everyRule("no ballots", suite(),
            31, 31, 31, 31, 31, 31, 31, 31, 31, 31, 31, 31, 31, 31, 31, 31, 31);
        everyRule("one ballot", suite("31420"),
            8, 30, 8, 8, 8, 8, 8, 8, 8, 8, 8, 8, 8, 8, 8, 8, 8);
        everyRule("squeeze", suite(SQUEEZE),
            5, 15, 2, 2, 2, 2, 1, 2, 2, 2, 2, 2, 2, 2, 2, 2, 2);
        everyRule("cycle", suite(CYCLE),
            1, 15, 3, 7, 1, 2, 1, 1, 1, 1, 1, 7, 7, 7, 7, 1, 1);
        everyRule("tied", suite(TIED),
            3, 15, 2, 2, 3, 2, 3, 3, 3, 3, 3, 7, 3, 3, 3, 2, 3);
        everyRule("points", suite(POINTS),
            1, 14, 2, 1, 1, 1, 1, 1, 1, 1, 1, 1, 1, 1, 1, 1, 1);
        VotingSuite x = suite(CYCLE);
        due("winners(-1)", x.winners(-1), BAD);
        due("winners(17)", x.winners(FIRST_WRONG_RULE), BAD);
        due("winners(max)", x.winners(Integer.MAX_VALUE), BAD);
        due("winners(min)", x.winners(Integer.MIN_VALUE), BAD);
        // All couples of the cycle 0, 1, 2 have the margin 1: each of them is left out in some order.
        due("winners(10) of an even cycle", suite("01234", "12034", "20134").winners(10), 7);
    }

    private static void everyRule(String name, VotingSuite x, int... want) {
        for (int rule = 0; rule < want.length; rule++) {
            due(name + ": winners(" + rule + ")", x.winners(rule), want[rule]);
        }
        due(name + ": how many rules", want.length, FIRST_WRONG_RULE);
    }

    private static void score() {
        promise = "7 score";
        VotingSuite x = suite(CYCLE);
        scores(x, 0, 4, 3, 2, 0, 0);
        scores(x, 1, 0, 0, 0, 0, -9);
        scores(x, 2, 28, 28, 25, 9, 0);
        scores(x, 3, 6, 6, 6, 2, 0);
        scores(x, 4, -1, -3, -5, -9, -9);
        scores(x, 5, 6, 7, 5, 0, 0);
        scores(suite(TIED), 3, 6, 7, 5, 2, 0);
        scores(suite(TIED), 4, 0, 0, -2, -2, -2);
        scores(suite(POINTS), 2, 12, 17, 12, 7, 2);
        // Exactly half of the ballots is not more than half: k is 2 here.
        scores(suite(TIED), 5, 1, 2, 1, 0, 0);
        scores(suite("01234"), 5, 1, 0, 0, 0, 0);
        // Only the middle place has a majority, so k is 3.
        scores(suite("01234", "43210"), 5, 1, 1, 2, 1, 1);
        for (int rule = 0; rule <= 5; rule++) {
            // Without ballots each has the margin 0 with the four others.
            int even = rule == 3 ? 4 : 0;
            scores(suite(), rule, even, even, even, even, even);
            due("score(" + rule + ", 5)", x.score(rule, 5), BAD);
            due("score(" + rule + ", -1)", x.score(rule, -1), BAD);
        }
        for (int c = 0; c <= 4; c++) {
            due("score(-1, " + c + ")", x.score(-1, c), BAD);
            due("score(6, " + c + ")", x.score(6, c), BAD);
        }
        due("score(min, max)", x.score(Integer.MIN_VALUE, Integer.MAX_VALUE), BAD);
        due("score(max, min)", x.score(Integer.MAX_VALUE, Integer.MIN_VALUE), BAD);
    }

    private static void scores(VotingSuite x, int rule, int... want) {
        for (int c = 0; c < 5; c++) {
            due("score(" + rule + ", " + c + ")", x.score(rule, c), want[c]);
        }
    }

    private static void strength() {
        promise = "8 strength";
        VotingSuite x = suite(CYCLE);
        due("strength(0, 1)", x.strength(0, 1), 3);
        due("strength(0, 2), over 1", x.strength(0, 2), 3);
        due("strength(1, 2)", x.strength(1, 2), 5);
        due("strength(1, 0), over 2", x.strength(1, 0), 1);
        due("strength(2, 0)", x.strength(2, 0), 1);
        due("strength(2, 1), over 0", x.strength(2, 1), 1);
        due("strength(0, 4)", x.strength(0, 4), 9);
        due("strength(4, 0), no way", x.strength(4, 0), 0);
        for (int c = 0; c <= 4; c++) {
            due("strength(" + c + ", " + c + ")", x.strength(c, c), 0);
            due("strength(" + c + ", 5)", x.strength(c, 5), 0);
            due("strength(-1, " + c + ")", x.strength(-1, c), 0);
            due("strength(5, " + c + ")", x.strength(5, c), 0);
            due("strength(" + c + ", -1)", x.strength(c, -1), 0);
        }
        due("strength(max, min)", x.strength(Integer.MAX_VALUE, Integer.MIN_VALUE), 0);
        due("strength(0, 1) of a tie", suite(TIED).strength(0, 1), 0);
        due("strength(1, 2) beside a tie", suite(TIED).strength(1, 2), 2);
        due("strength(0, 1) without ballots", suite().strength(0, 1), 0);
    }

    private static void swaps() {
        promise = "9 swaps";
        swapNumbers("cycle", suite(CYCLE), 1, 2, 3, 15, 20);
        swapNumbers("tied", suite(TIED), 2, 1, 3, 6, 8);
        swapNumbers("one ballot", suite("31420"), 4, 1, 3, 0, 2);
        swapNumbers("squeeze", suite(SQUEEZE), 1, 0, 2, 9, 12);
        swapNumbers("no ballots", suite(), NONE, NONE, NONE, NONE, NONE);
        // The most there can be: five of nine ballots, four exchanges each.
        String[] same = new String[9];
        java.util.Arrays.fill(same, "01234");
        swapNumbers("nine the same", suite(same), 0, 5, 10, 15, 20);
        for (int c : new int[] {-1, 5, Integer.MIN_VALUE, Integer.MAX_VALUE}) {
            due("swaps(" + c + ")", suite(CYCLE).swaps(c), BAD);
            due("swaps(" + c + ") without ballots", suite().swaps(c), BAD);
        }
    }

    private static void swapNumbers(String name, VotingSuite x, int... want) {
        for (int c = 0; c < 5; c++) {
            due(name + ": swaps(" + c + ")", x.swaps(c), want[c]);
        }
    }

    private static void removals() {
        promise = "10 removals";
        removalNumbers("cycle", suite(CYCLE), 2, 4, 6, NONE, NONE);
        removalNumbers("tied", suite(TIED), 1, 1, NONE, NONE, NONE);
        // 0 has to get rid of two of the three ballots with 1 before it, 2 of two of the three with 0 and 1 before it.
        removalNumbers("squeeze", suite(SQUEEZE), 2, 0, 2, NONE, NONE);
        // Taking the only ballot away is not allowed.
        removalNumbers("one ballot", suite("31420"), NONE, NONE, NONE, 0, NONE);
        removalNumbers("no ballots", suite(), NONE, NONE, NONE, NONE, NONE);
        // All but one.
        removalNumbers("one against eight", suite("01234", "01234", "01234", "01234", "01234", "01234", "01234",
            "01234", "43210"), 0, NONE, NONE, NONE, 8);
        for (int c : new int[] {-1, 5, Integer.MIN_VALUE, Integer.MAX_VALUE}) {
            due("removals(" + c + ")", suite(CYCLE).removals(c), BAD);
            due("removals(" + c + ") without ballots", suite().removals(c), BAD);
        }
    }

    private static void removalNumbers(String name, VotingSuite x, int... want) {
        for (int c = 0; c < 5; c++) {
            due(name + ": removals(" + c + ")", x.removals(c), want[c]);
        }
    }

    private static void leader() {
        promise = "11 leader";
        due("squeeze", suite(SQUEEZE).leader(), 1);
        due("cycle", suite(CYCLE).leader(), NONE);
        due("a tie for the lead", suite(TIED).leader(), NONE);
        due("no ballots", suite().leader(), NONE);
        due("0 leads", suite("01234").leader(), 0);
        due("4 leads", suite("41230", "43210", "01234").leader(), 4);
    }

    private static void gain() {
        promise = "12 gain";
        // 2 is first on three ballots, 1 on two: with 1 first, ballot 0 makes it a tie.
        String[] firsts = {"01234", "12034", "12034", "20134", "20134", "20134"};
        VotingSuite x = suite(firsts);
        due("gain(0, 0)", x.gain(0, 0), code("10234"));
        due("gain(0, 3), best winner in front", x.gain(0, 3), NONE);
        due("order(0) after gain", x.order(0), code("01234"));
        due("winners(0) after gain", x.winners(0), 4);
        due("margin(0, 1) after gain", x.margin(0, 1), 2);
        due("ballots() after gain", x.ballots(), 6);
        // By rule 6, 0 wins; those with 2 first get 1 if they put it first, as 2 goes then and hands over to 1.
        due("gain(6, 2)", suite(SQUEEZE).gain(6, 2), code("10234"));
        due("gain(6, 0)", suite(SQUEEZE).gain(6, 0), NONE);
        // A single ballot decides alone, and has its front one already.
        for (int rule = 0; rule <= 14; rule++) {
            due("one ballot: gain(" + rule + ", 0)", suite("31420").gain(rule, 0), NONE);
        }
        VotingSuite y = suite(SQUEEZE);
        due("gain(15, 0)", y.gain(15, 0), BAD);
        due("gain(16, 0)", y.gain(16, 0), BAD);
        due("gain(-1, 0)", y.gain(-1, 0), BAD);
        due("gain(0, 5)", y.gain(0, 5), BAD);
        due("gain(0, -1)", y.gain(0, -1), BAD);
        due("gain(14, 4)", y.gain(14, 4), NONE);
        due("gain(max, min)", y.gain(Integer.MAX_VALUE, Integer.MIN_VALUE), BAD);
        due("gain(min, max)", y.gain(Integer.MIN_VALUE, Integer.MAX_VALUE), BAD);
        due("gain(0, 0) without ballots", suite().gain(0, 0), BAD);
    }

    private static void agree() {
        promise = "13 agree";
        VotingSuite x = suite(CYCLE);
        due("agree(9, 10)", x.agree(9, 10), true);
        due("agree(0, 16)", x.agree(0, 16), true);
        due("agree(16, 0)", x.agree(16, 0), true);
        due("agree(11, 14)", x.agree(11, 14), true);
        due("agree(0, 5)", x.agree(0, 5), false);
        due("agree(10, 11)", x.agree(10, 11), false);
        // 0 lies in the winners of rule 2, but 1 does, too.
        due("agree(0, 2)", x.agree(0, 2), false);
        for (int rule = 0; rule <= 16; rule++) {
            due("agree(" + rule + ", " + rule + ")", x.agree(rule, rule), true);
            due("agree(" + rule + ", 17)", x.agree(rule, FIRST_WRONG_RULE), false);
            due("agree(-1, " + rule + ")", x.agree(-1, rule), false);
        }
        due("agree(17, 17)", x.agree(FIRST_WRONG_RULE, FIRST_WRONG_RULE), false);
        due("agree(-1, -1)", x.agree(-1, -1), false);
        due("agree(-1, 17)", x.agree(-1, FIRST_WRONG_RULE), false);
    }

    private static void ballots() {
        promise = "14 ballots";
        VotingSuite x = new VotingSuite();
        for (int n = 1; n <= 9; n++) {
            x.ballot(194);
            due("ballots()", x.ballots(), n);
        }
        x.ballot(194);
        due("ballots() after FULL", x.ballots(), 9);
        x.drop(9);
        due("ballots() after BAD", x.ballots(), 9);
        x.drop(8);
        due("ballots() after drop", x.ballots(), 8);
    }

    private static void orderAndLimits() {
        promise = "15 Order and limits";
        due("winners(15) without ballots", suite().winners(15), 31);
        due("winners(16) without ballots", suite().winners(16), 31);
        due("agree(15, 16) without ballots", suite().agree(15, 16), true);
        VotingSuite emptied = suite("31420");
        due("winners(15) with a ballot", emptied.winners(15), 8);
        emptied.drop(0);
        due("winners(15) emptied", emptied.winners(15), 31);
        // Only a single ballot has one that beats all others: its front one.
        due("winners(16) of opposite ballots", suite("01234", "43210").winners(16), 1 | 1 << 4);
        lastCalls();
    }

    // An object is used for up to 512 calls; the last ones must be as good as the first.
    private static void lastCalls() {
        VotingSuite x = new VotingSuite();
        for (int n = 0; n < 255; n++) {
            due("ballot, again and again", x.ballot(694), 1);
            due("drop, again and again", x.drop(0), 0);
        }
        due("ballot as call 511", x.ballot(2930), 1);
        due("winners as call 512", x.winners(10), 16);
    }

    private static VotingSuite suite(String... votes) {
        VotingSuite x = new VotingSuite();
        for (String vote : votes) {
            x.ballot(code(vote));
        }
        return x;
    }

    private static int code(String vote) {
        return Integer.parseInt(vote, 5);
    }

    private static void due(String call, boolean got, boolean want) {
        due(call, got ? 1 : 0, want ? 1 : 0);
    }

    private static void due(String call, int got, int want) {
        checked++;
        if (got != want) {
            wrong++;
            System.out.println("promise " + promise + ": " + call + " answered " + got + ", due is " + want);
        }
    }
}
