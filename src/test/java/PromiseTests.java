// One test or more for each promise of the document, with answers reckoned by hand.
public final class PromiseTests {
    private static final int INVALID = -1;
    private static final int NOT_POSSIBLE = -2;
    private static final int LIMIT = -3;
    private static final int NOT_FOUND = -4;
    private static final int[] WILD = {Integer.MIN_VALUE, -2, -1, 100, 10000, 10000000, Integer.MAX_VALUE};

    private static int promise = 0;
    private static int wrong = 0;
    private static int tested = 0;

    private static void due(String call, int got, int want) {
        tested++;
        if (got != want) {
            wrong++;
            System.out.println("promise " + promise + ": " + call + " answered " + got + ", due is " + want);
        }
    }

    /** A company with two holders and the classes 0, 1 (plain, 2 a share) and 2 (participating, 5 a share). */
    private static CapStacks company() {
        CapStacks x = new CapStacks();
        x.shareClass(2, 1, 1, 0, 1);
        x.shareClass(5, 2, 2, 1, 3);
        x.holder();
        x.holder();
        return x;
    }

    private static void typeText(CapStacks x, String text) {
        for (int i = 0; i < text.length(); i++) {
            due("type " + text.charAt(i), x.type(text.charAt(i)), x.count(12));
        }
    }

    private static void newText(CapStacks x, String text) {
        x.clearText();
        typeText(x, text);
    }

    private static void faultIs(CapStacks x, String text, int position, int reason, int cause) {
        newText(x, text);
        due("fault(0) of " + text, x.fault(0), position);
        due("fault(1) of " + text, x.fault(1), reason);
        due("fault(2) of " + text, x.fault(2), cause);
        due("play() of " + text, x.play(), NOT_POSSIBLE);
    }

    private static void plays(CapStacks x, String text, int commands) {
        newText(x, text);
        due("fault(0) of " + text, x.fault(0), NOT_FOUND);
        due("fault(1) of " + text, x.fault(1), NOT_FOUND);
        due("fault(2) of " + text, x.fault(2), NOT_FOUND);
        due("play() of " + text, x.play(), commands);
    }

    private static void fillCertificates(CapStacks x, int number) {
        for (int i = 0; i < number; i++) {
            x.issue(0, 0, 10);
        }
    }

    private static void newObject() {
        promise = 1;
        CapStacks x = new CapStacks();
        for (int what = 0; what <= 12; what++) {
            due("count(" + what + ")", x.count(what), what == 0 ? 1 : 0);
        }
        due("holderOf(0, 0)", x.holderOf(0, 0), INVALID);
        due("classOf(0, 0)", x.classOf(0, 0), 0);
        due("classOf(0, 2)", x.classOf(0, 2), 0);
        due("classOf(1, 0)", x.classOf(1, 0), INVALID);
        due("certificateOf(0, 0)", x.certificateOf(0, 0), INVALID);
        due("grantOf(0, 0)", x.grantOf(0, 0), INVALID);
        due("converts(1000)", x.converts(1000), 0);
        due("classGets(1000, 0)", x.classGets(1000, 0), 0);
        due("byGain(1000, 0)", x.byGain(1000, 0), 0);
        due("undo()", x.undo(), NOT_POSSIBLE);
        due("fault(0)", x.fault(0), NOT_FOUND);
        CapStacks other = new CapStacks();
        other.holder();
        due("count(1) beside another object", x.count(1), 0);
    }

    private static void shareClass() {
        promise = 2;
        CapStacks x = new CapStacks();
        int[][] bad = {{0, 1, 0, 0, 1}, {100, 1, 0, 0, 1}, {1, 0, 0, 0, 1}, {1, 4, 0, 0, 1}, {1, 1, -1, 0, 1},
            {1, 1, 10, 0, 1}, {1, 1, 0, -1, 1}, {1, 1, 0, 3, 1}, {1, 1, 0, 0, 0}, {1, 1, 0, 0, 5}};
        for (int[] b : bad) {
            due("shareClass with a bad argument", x.shareClass(b[0], b[1], b[2], b[3], b[4]), INVALID);
        }
        due("count(0)", x.count(0), 1);
        due("shareClass(1, 1, 0, 0, 1)", x.shareClass(1, 1, 0, 0, 1), 1);
        due("shareClass(99, 3, 9, 2, 4)", x.shareClass(99, 3, 9, 2, 4), 2);
        due("shareClass(5, 2, 4, 1, 3)", x.shareClass(5, 2, 4, 1, 3), 3);
        due("shareClass(5, 2, 4, 1, 3)", x.shareClass(5, 2, 4, 1, 3), 4);
        due("shareClass, the sixth", x.shareClass(5, 2, 4, 1, 3), LIMIT);
        due("shareClass, the sixth and bad", x.shareClass(0, 2, 4, 1, 3), INVALID);
        due("count(0)", x.count(0), 5);
        due("count(11)", x.count(11), 4);
    }

    private static void holder() {
        promise = 3;
        CapStacks x = new CapStacks();
        for (int h = 0; h < 8; h++) {
            due("holder()", x.holder(), h);
        }
        due("holder(), the ninth", x.holder(), LIMIT);
        due("count(1)", x.count(1), 8);
    }

    private static void issue() {
        promise = 4;
        CapStacks x = company();
        due("issue(2, 0, 1)", x.issue(2, 0, 1), INVALID);
        due("issue(-1, 0, 1)", x.issue(-1, 0, 1), INVALID);
        due("issue(0, 3, 1)", x.issue(0, 3, 1), INVALID);
        due("issue(0, -1, 1)", x.issue(0, -1, 1), INVALID);
        due("issue(0, 0, 0)", x.issue(0, 0, 0), INVALID);
        due("issue(0, 0, 10000)", x.issue(0, 0, 10000), INVALID);
        due("issue(1, 2, 9999)", x.issue(1, 2, 9999), 0);
        due("issue(0, 0, 1)", x.issue(0, 0, 1), 1);
        due("count(7)", x.count(7), 10000);
        x.leave(0);
        due("issue to a holder who left", x.issue(0, 1, 5), 2);
        due("round(1, 5, 0)", x.round(1, 5, 0), 10);
        due("issue during a round", x.issue(0, 0, 1), NOT_POSSIBLE);
        due("bad issue during a round", x.issue(0, 0, 0), INVALID);
        due("close()", x.close(), 1);
        fillCertificates(x, 20);
        due("count(2)", x.count(2), 24);
        due("issue, the 25th", x.issue(0, 0, 1), LIMIT);
        due("bad issue, the 25th", x.issue(0, 5, 1), INVALID);
        due("round(1, 5, 0)", x.round(1, 5, 0), 10);
        due("issue, the 25th during a round", x.issue(0, 0, 1), NOT_POSSIBLE);
    }

    private static void split() {
        promise = 5;
        CapStacks x = company();
        x.issue(0, 2, 10);
        x.issue(0, 1, 8);
        x.pass(7);
        due("split(2, 1, 1)", x.split(2, 1, 1), INVALID);
        due("split(-1, 1, 1)", x.split(-1, 1, 1), INVALID);
        due("split(24, 1, 1)", x.split(24, 1, 1), INVALID);
        due("split to its own holder", x.split(0, 0, 1), INVALID);
        due("split(0, 2, 1)", x.split(0, 2, 1), INVALID);
        due("split(0, 1, 0)", x.split(0, 1, 0), INVALID);
        due("split(0, 1, 11)", x.split(0, 1, 11), INVALID);
        due("split(0, 1, 4)", x.split(0, 1, 4), 2);
        due("certificateOf(2, 1)", x.certificateOf(2, 1), 2);
        due("certificateOf(2, 2)", x.certificateOf(2, 2), 4);
        due("certificateOf(2, 3)", x.certificateOf(2, 3), 7);
        due("certificateOf(0, 2)", x.certificateOf(0, 2), 6);
        due("certificateOf(0, 3)", x.certificateOf(0, 3), 0);
        due("whole split gets its own number", x.split(1, 1, 8), 1);
        due("certificateOf(1, 0)", x.certificateOf(1, 0), 1);
        due("certificateOf(1, 3)", x.certificateOf(1, 3), 7);
        due("count(7)", x.count(7), 18);
        x.buyBack(0, 6);
        due("whole split gets a lower number", x.split(2, 0, 4), 0);
        due("certificateOf(2, 0)", x.certificateOf(2, 0), INVALID);
        fillCertificates(x, 22);
        due("count(2)", x.count(2), 24);
        due("split with 24", x.split(1, 0, 7), LIMIT);
        due("whole split with 24", x.split(1, 0, 8), 1);
        x.round(1, 1, 0);
        due("split during a round", x.split(1, 1, 8), NOT_POSSIBLE);
        due("split with 24 during a round", x.split(1, 1, 7), NOT_POSSIBLE);
        due("bad split during a round", x.split(1, 1, 9), INVALID);
    }

    private static void buyBack() {
        promise = 6;
        CapStacks x = company();
        x.issue(0, 0, 10);
        due("buyBack(1, 1)", x.buyBack(1, 1), INVALID);
        due("buyBack(-1, 1)", x.buyBack(-1, 1), INVALID);
        due("buyBack(0, 0)", x.buyBack(0, 0), INVALID);
        due("buyBack(0, 11)", x.buyBack(0, 11), INVALID);
        due("buyBack(0, 3)", x.buyBack(0, 3), 7);
        due("count(8)", x.count(8), 3);
        x.round(1, 1, 0);
        due("buyBack during a round", x.buyBack(0, 1), NOT_POSSIBLE);
        due("bad buyBack during a round", x.buyBack(0, 8), INVALID);
        x.undo();
        due("buyBack(0, 1)", x.buyBack(0, 1), 6);
        due("buyBack(0, 6)", x.buyBack(0, 6), 0);
        due("certificateOf(0, 2)", x.certificateOf(0, 2), INVALID);
        due("buyBack of what is gone", x.buyBack(0, 1), INVALID);
        due("count(8)", x.count(8), 10);
        due("count(7)", x.count(7), 10);
        due("count(2)", x.count(2), 0);
    }

    private static void grant() {
        promise = 7;
        CapStacks x = company();
        int[][] bad = {{2, 1, 0, 0, 1}, {-1, 1, 0, 0, 1}, {0, 0, 0, 0, 1}, {0, 10000, 0, 0, 1}, {0, 1, -1, 0, 1},
            {0, 1, 100, 0, 1}, {0, 1, 0, -1, 1}, {0, 1, 0, 2, 1}, {0, 1, 0, 0, 0}, {0, 1, 0, 0, 61}, {0, 1, 0, 61, 61}};
        for (int[] b : bad) {
            due("grant with a bad argument", x.grant(b[0], b[1], b[2], b[3], b[4]), INVALID);
        }
        x.round(1, 5, 0);
        due("grant during a round", x.grant(0, 1, 0, 0, 1), 0);
        due("grant(1, 9999, 99, 60, 60)", x.grant(1, 9999, 99, 60, 60), 1);
        x.leave(1);
        due("grant to one who left", x.grant(1, 1, 0, 0, 1), NOT_POSSIBLE);
        due("bad grant to one who left", x.grant(1, 1, 0, 2, 1), INVALID);
        for (int g = 2; g < 8; g++) {
            due("grant(0, 1, 0, 0, 1)", x.grant(0, 1, 0, 0, 1), g);
        }
        due("grant, the ninth", x.grant(0, 1, 0, 0, 1), LIMIT);
        due("grant, the ninth, to one who left", x.grant(1, 1, 0, 0, 1), NOT_POSSIBLE);
        due("count(3)", x.count(3), 8);
    }

    private static void take() {
        promise = 8;
        CapStacks x = company();
        x.grant(1, 100, 7, 0, 10);
        due("take(1, 1)", x.take(1, 1), INVALID);
        due("take(-1, 1)", x.take(-1, 1), INVALID);
        due("take(0, 0)", x.take(0, 0), INVALID);
        due("take(0, 10000)", x.take(0, 10000), INVALID);
        due("take of nothing vested", x.take(0, 1), NOT_POSSIBLE);
        x.pass(3);
        due("take(0, 31)", x.take(0, 31), NOT_POSSIBLE);
        due("take(0, 30)", x.take(0, 30), 210);
        due("take(0, 1)", x.take(0, 1), NOT_POSSIBLE);
        due("certificateOf(0, 0)", x.certificateOf(0, 0), 1);
        due("certificateOf(0, 1)", x.certificateOf(0, 1), 0);
        due("certificateOf(0, 2)", x.certificateOf(0, 2), 30);
        due("certificateOf(0, 3)", x.certificateOf(0, 3), 3);
        due("count(7)", x.count(7), 30);
        due("count(9)", x.count(9), 210);
        x.pass(1);
        x.round(1, 5, 0);
        due("take during a round", x.take(0, 1), NOT_POSSIBLE);
        due("bad take during a round", x.take(0, 0), INVALID);
        due("close()", x.close(), 1);
        fillCertificates(x, 22);
        due("take with 24", x.take(0, 10), LIMIT);
        due("too large a take with 24", x.take(0, 11), NOT_POSSIBLE);
        due("grantOf(0, 4)", x.grantOf(0, 4), 30);
        due("count(9)", x.count(9), 210);
    }

    private static void leave() {
        promise = 9;
        CapStacks x = company();
        x.grant(0, 10, 1, 0, 10);
        x.grant(1, 100, 1, 0, 10);
        x.pass(2);
        x.grant(0, 20, 1, 3, 10);
        x.grant(0, 30, 1, 0, 10);
        x.pass(2);
        x.take(0, 1);
        due("leave(2)", x.leave(2), INVALID);
        due("leave(-1)", x.leave(-1), INVALID);
        due("leave(0)", x.leave(0), 3 + 0 + 6);
        due("leave(0) again", x.leave(0), NOT_POSSIBLE);
        due("holderOf(0, 6)", x.holderOf(0, 6), 4);
        due("take by one who left", x.take(3, 6), 6);
        x.pass(3);
        due("holderOf(0, 8)", x.holderOf(0, 8), 3);
        due("grantOf(0, 3)", x.grantOf(0, 3), 4);
        due("grantOf(2, 3) after the cliff, but left ahead of it", x.grantOf(2, 3), 0);
        due("grantOf(1, 3) of another holder", x.grantOf(1, 3), 70);
        due("take in the third month", x.take(0, 1), 1);
        x.pass(1);
        due("holderOf(0, 8)", x.holderOf(0, 8), 0);
        due("take in the fourth month", x.take(0, 1), NOT_POSSIBLE);
        due("holderOf(0, 0)", x.holderOf(0, 0), 8);
        x.round(1, 1, 1);
        due("leave during a round", x.leave(1), 80);
    }

    private static void pass() {
        promise = 10;
        CapStacks x = new CapStacks();
        due("pass(0)", x.pass(0), INVALID);
        due("pass(-1)", x.pass(-1), INVALID);
        due("pass(100)", x.pass(100), INVALID);
        due("pass(MAX)", x.pass(Integer.MAX_VALUE), INVALID);
        due("pass(1)", x.pass(1), 1);
        for (int i = 1; i <= 10; i++) {
            due("pass(99)", x.pass(99), 1 + 99 * i);
        }
        due("pass(9)", x.pass(9), LIMIT);
        due("pass(100)", x.pass(100), INVALID);
        due("pass(8)", x.pass(8), 999);
        due("pass(1)", x.pass(1), LIMIT);
        due("count(4)", x.count(4), 999);
    }

    private static void round() {
        promise = 11;
        CapStacks x = company();
        due("round(0, 1, 0)", x.round(0, 1, 0), INVALID);
        due("round(3, 1, 0)", x.round(3, 1, 0), INVALID);
        due("round(-1, 1, 0)", x.round(-1, 1, 0), INVALID);
        due("round(1, 0, 0)", x.round(1, 0, 0), INVALID);
        due("round(1, 10000, 0)", x.round(1, 10000, 0), INVALID);
        due("round(1, 1, 2)", x.round(1, 1, 2), INVALID);
        due("round(1, 1, -1)", x.round(1, 1, -1), INVALID);
        due("round(2, 9999, 1)", x.round(2, 9999, 1), 49995);
        due("count(6)", x.count(6), 1);
        due("count(7)", x.count(7), 0);
        due("count(10)", x.count(10), 0);
        due("roundOf(0, 0) of no shares at all", x.roundOf(0, 0), 0);
        due("round(1, 1, 0) again", x.round(1, 1, 0), NOT_POSSIBLE);
        due("round(0, 1, 0) again", x.round(0, 1, 0), INVALID);
        due("pass during a round", x.pass(1), 1);
        due("shareClass during a round", x.shareClass(1, 1, 1, 1, 1), 3);
    }

    private static void takeUp() {
        promise = 12;
        CapStacks x = company();
        x.issue(0, 0, 10);
        x.issue(0, 2, 10);
        x.issue(1, 1, 19);
        due("takeUp without a round", x.takeUp(0, 1), NOT_POSSIBLE);
        due("bad takeUp without a round", x.takeUp(0, 0), INVALID);
        due("round(1, 100, 1)", x.round(1, 100, 1), 200);
        due("roundOf(0, 0)", x.roundOf(0, 0), 67);
        due("roundOf(1, 0)", x.roundOf(1, 0), 32);
        due("takeUp(2, 1)", x.takeUp(2, 1), INVALID);
        due("takeUp(-1, 1)", x.takeUp(-1, 1), INVALID);
        due("takeUp(0, 0)", x.takeUp(0, 0), INVALID);
        due("takeUp(0, 10000)", x.takeUp(0, 10000), INVALID);
        due("takeUp(0, 68)", x.takeUp(0, 68), NOT_POSSIBLE);
        due("takeUp(0, 60)", x.takeUp(0, 60), 7);
        due("takeUp(0, 8)", x.takeUp(0, 8), NOT_POSSIBLE);
        due("takeUp(0, 7)", x.takeUp(0, 7), 0);
        due("takeUp(0, 1)", x.takeUp(0, 1), NOT_POSSIBLE);
        due("takeUp(1, 1)", x.takeUp(1, 1), 31);
        due("holder()", x.holder(), 2);
        due("roundOf(2, 0)", x.roundOf(2, 0), 0);
        due("takeUp(2, 1) by one who came later", x.takeUp(2, 1), NOT_POSSIBLE);
        x.leave(1);
        due("takeUp(1, 31) by one who left", x.takeUp(1, 31), 0);
    }

    private static void close() {
        promise = 13;
        CapStacks x = company();
        due("close()", x.close(), NOT_POSSIBLE);
        x.issue(0, 0, 50);
        x.issue(1, 1, 50);
        x.round(2, 10, 0);
        x.pass(4);
        x.takeUp(1, 5);
        x.takeUp(0, 3);
        due("close()", x.close(), 3);
        int[][] made = {{0, 3}, {1, 5}, {0, 2}};
        for (int i = 0; i < 3; i++) {
            due("holder of certificate " + (i + 2), x.certificateOf(i + 2, 0), made[i][0]);
            due("class of certificate " + (i + 2), x.certificateOf(i + 2, 1), 2);
            due("shares of certificate " + (i + 2), x.certificateOf(i + 2, 2), made[i][1]);
            due("time of certificate " + (i + 2), x.certificateOf(i + 2, 3), 4);
        }
        due("count(7)", x.count(7), 110);
        due("count(10)", x.count(10), 50);
        due("count(6)", x.count(6), 0);
        due("roundOf(0, 0)", x.roundOf(0, 0), NOT_FOUND);
        due("close()", x.close(), NOT_POSSIBLE);
        closeWhenAllIsTakenUp();
        closeAtTheLimit();
    }

    private static void closeWhenAllIsTakenUp() {
        CapStacks x = company();
        x.issue(0, 0, 50);
        x.issue(1, 0, 50);
        x.round(1, 10, 0);
        x.takeUp(0, 5);
        x.takeUp(1, 5);
        due("close() with nothing left", x.close(), 2);
        due("count(2)", x.count(2), 4);
        x.round(1, 10, 1);
        due("roundOf(0, 1) of a new round", x.roundOf(0, 1), 0);
        due("close() with nothing taken up", x.close(), 1);
        due("certificateOf(4, 0)", x.certificateOf(4, 0), 1);
        due("certificateOf(4, 2)", x.certificateOf(4, 2), 10);
        due("count(10)", x.count(10), 40);
    }

    private static void closeAtTheLimit() {
        CapStacks x = company();
        fillCertificates(x, 23);
        x.round(1, 10, 1);
        x.takeUp(0, 9);
        due("close() with 25", x.close(), LIMIT);
        due("count(6)", x.count(6), 1);
        due("count(2)", x.count(2), 23);
        x.takeUp(0, 1);
        due("close() with 24", x.close(), 1);
        due("count(2)", x.count(2), 24);
        x.round(1, 10, 1);
        due("close() with 25", x.close(), LIMIT);
    }

    private static void roundOf() {
        promise = 14;
        CapStacks x = company();
        x.issue(0, 0, 1);
        x.issue(1, 0, 2);
        due("roundOf(0, 0)", x.roundOf(0, 0), NOT_FOUND);
        due("roundOf(0, 4)", x.roundOf(0, 4), NOT_FOUND);
        due("roundOf(2, 0)", x.roundOf(2, 0), INVALID);
        due("roundOf(0, 5)", x.roundOf(0, 5), INVALID);
        x.round(2, 200, 1);
        x.takeUp(1, 33);
        int[][] want = {{66, 0, 2, 200, 1}, {133, 33, 2, 200, 1}};
        for (int h = 0; h < 2; h++) {
            for (int what = 0; what < 5; what++) {
                due("roundOf(" + h + ", " + what + ")", x.roundOf(h, what), want[h][what]);
            }
        }
        due("roundOf(2, 0)", x.roundOf(2, 0), INVALID);
        due("roundOf(-1, 0)", x.roundOf(-1, 0), INVALID);
        due("roundOf(0, -1)", x.roundOf(0, -1), INVALID);
        due("roundOf(0, 5)", x.roundOf(0, 5), INVALID);
    }

    private static void classOf() {
        promise = 15;
        CapStacks x = new CapStacks();
        x.shareClass(7, 3, 9, 2, 4);
        x.holder();
        x.holder();
        x.issue(0, 1, 10);
        x.issue(1, 1, 5);
        x.issue(1, 0, 9);
        int[] one = {15, 315, 60, 7, 3, 9, 2, 4};
        int[] common = {9, 0, 9, NOT_FOUND, NOT_FOUND, NOT_FOUND, NOT_FOUND, NOT_FOUND};
        for (int what = 0; what < 8; what++) {
            due("classOf(1, " + what + ")", x.classOf(1, what), one[what]);
            due("classOf(0, " + what + ")", x.classOf(0, what), common[what]);
        }
        due("classOf(0, 8)", x.classOf(0, 8), INVALID);
        due("classOf(0, -1)", x.classOf(0, -1), INVALID);
        due("classOf(2, 0)", x.classOf(2, 0), INVALID);
        due("classOf(-1, 0)", x.classOf(-1, 0), INVALID);
    }

    private static void certificateOf() {
        promise = 16;
        CapStacks x = company();
        x.pass(9);
        x.issue(1, 2, 6);
        int[] want = {1, 2, 6, 9};
        for (int what = 0; what < 4; what++) {
            due("certificateOf(0, " + what + ")", x.certificateOf(0, what), want[what]);
        }
        due("certificateOf(0, 4)", x.certificateOf(0, 4), INVALID);
        due("certificateOf(0, -1)", x.certificateOf(0, -1), INVALID);
        due("certificateOf(1, 0)", x.certificateOf(1, 0), INVALID);
        due("certificateOf(24, 0)", x.certificateOf(24, 0), INVALID);
        due("certificateOf(-1, 0)", x.certificateOf(-1, 0), INVALID);
    }

    private static void grantOf() {
        promise = 17;
        CapStacks x = company();
        x.pass(5);
        x.grant(1, 100, 8, 4, 12);
        due("grantOf(0, 3) at first", x.grantOf(0, 3), 0);
        x.pass(3);
        due("grantOf(0, 3) ahead of the cliff", x.grantOf(0, 3), 0);
        x.pass(1);
        due("grantOf(0, 3) at the cliff", x.grantOf(0, 3), 33);
        x.take(0, 10);
        x.round(1, 1, 0);
        int[] want = {1, 100, 8, 33, 10, 23, 5};
        for (int what = 0; what < 7; what++) {
            due("grantOf(0, " + what + ")", x.grantOf(0, what), want[what]);
        }
        x.pass(7);
        due("grantOf(0, 3) ahead of the term", x.grantOf(0, 3), 91);
        x.pass(1);
        due("grantOf(0, 3) at the term", x.grantOf(0, 3), 100);
        x.pass(9);
        due("grantOf(0, 3) after the term", x.grantOf(0, 3), 100);
        x.leave(1);
        x.pass(4);
        due("grantOf(0, 3), not to be taken", x.grantOf(0, 3), 100);
        due("grantOf(0, 5), not to be taken", x.grantOf(0, 5), 0);
        due("grantOf(0, 7)", x.grantOf(0, 7), INVALID);
        due("grantOf(0, -1)", x.grantOf(0, -1), INVALID);
        due("grantOf(1, 0)", x.grantOf(1, 0), INVALID);
        due("grantOf(-1, 0)", x.grantOf(-1, 0), INVALID);
    }

    private static void holderOf() {
        promise = 18;
        CapStacks x = company();
        due("holderOf(0, 9) without shares", x.holderOf(0, 9), NOT_FOUND);
        due("holderOf(0, 6)", x.holderOf(0, 6), NOT_FOUND);
        x.issue(0, 0, 10);
        x.issue(0, 0, 5);
        x.issue(0, 1, 4);
        x.issue(0, 2, 3);
        x.issue(1, 2, 7);
        x.grant(0, 12, 1, 0, 12);
        x.grant(0, 24, 1, 0, 12);
        x.pass(2);
        x.leave(0);
        x.round(1, 5, 1);
        int[] want = {15, 4, 3, 0, 0, 28, 2, 4, 6, 571};
        for (int what = 0; what < 10; what++) {
            due("holderOf(0, " + what + ")", x.holderOf(0, what), want[what]);
        }
        due("holderOf(1, 9)", x.holderOf(1, 9), 428);
        due("holderOf(1, 6)", x.holderOf(1, 6), NOT_FOUND);
        due("holderOf(0, 10)", x.holderOf(0, 10), INVALID);
        due("holderOf(0, -1)", x.holderOf(0, -1), INVALID);
        due("holderOf(2, 0)", x.holderOf(2, 0), INVALID);
        due("holderOf(-1, 0)", x.holderOf(-1, 0), INVALID);
    }

    private static void count() {
        promise = 19;
        CapStacks x = company();
        x.issue(0, 2, 10);
        x.issue(1, 0, 7);
        x.buyBack(1, 3);
        x.grant(0, 12, 6, 0, 12);
        x.pass(5);
        x.take(0, 2);
        x.round(2, 9, 1);
        x.close();
        x.round(1, 4, 1);
        typeText(x, "pass");
        int[] want = {3, 2, 4, 1, 5, 63, 1, 28, 3, 12, 45, 4, 4};
        for (int what = 0; what < 13; what++) {
            due("count(" + what + ")", x.count(what), want[what]);
        }
        due("count(13)", x.count(13), INVALID);
        due("count(-1)", x.count(-1), INVALID);
    }

    private static void exits() {
        promise = 20;
        CapStacks x = new CapStacks();
        x.shareClass(2, 1, 1, 0, 1);
        x.shareClass(5, 1, 2, 2, 1);
        for (int h = 0; h < 3; h++) {
            x.holder();
        }
        x.issue(0, 0, 100);
        x.issue(1, 1, 50);
        x.issue(2, 2, 20);
        due("converts(0)", x.converts(0), 0);
        due("converts(9999999)", x.converts(9999999), 6);
        due("converts(-1)", x.converts(-1), INVALID);
        due("converts(10000000)", x.converts(10000000), INVALID);
        // at 302 it gets 100 as it is and 302 * 50 / 150 = 100 converted: no more, so it does not convert
        CapStacks y = new CapStacks();
        y.shareClass(2, 1, 1, 0, 1);
        y.holder();
        y.issue(0, 0, 100);
        y.issue(0, 1, 50);
        due("converts at the same", y.converts(302), 0);
        due("converts for one more", y.converts(303), 2);
        due("classGets(303, 1)", y.classGets(303, 1), 101);
        due("classGets(303, 0)", y.classGets(303, 0), 202);
        promise = 21;
        due("classGets(-1, 0)", x.classGets(-1, 0), INVALID);
        due("classGets(10000000, 0)", x.classGets(10000000, 0), INVALID);
        due("classGets(0, 3)", x.classGets(0, 3), INVALID);
        due("classGets(0, -1)", x.classGets(0, -1), INVALID);
        due("classGets(0, 2)", x.classGets(0, 2), 0);
        due("classGets(99, 2)", x.classGets(99, 2), 99);
        due("classGets(199, 1)", x.classGets(199, 1), 99);
        due("classGets(9999999, 0)", x.classGets(9999999, 0), 5882352);
    }

    private static void sameRank() {
        promise = 21;
        CapStacks x = new CapStacks();
        x.shareClass(1, 1, 3, 0, 1);
        x.shareClass(2, 1, 3, 0, 1);
        x.shareClass(1, 1, 0, 0, 1);
        x.shareClass(9, 3, 9, 0, 4);
        x.holder();
        x.issue(0, 0, 1000);
        x.issue(0, 1, 10);
        x.issue(0, 2, 10);
        x.issue(0, 3, 10);
        // 20 for claims of 10 and 20: 6 and 13, and nothing for those behind
        due("classGets(20, 1)", x.classGets(20, 1), 6);
        due("classGets(20, 2)", x.classGets(20, 2), 13);
        due("classGets(20, 3)", x.classGets(20, 3), 0);
        due("classGets(20, 0)", x.classGets(20, 0), 0);
        due("classGets(30, 2)", x.classGets(30, 2), 20);
        due("classGets(35, 3)", x.classGets(35, 3), 5);
        due("classGets(41, 0)", x.classGets(41, 0), 1);
        due("classGets(41, 4) without shares", x.classGets(41, 4), 0);
        due("converts(41)", x.converts(41), 0);
    }

    private static void participation() {
        promise = 21;
        CapStacks x = new CapStacks();
        x.shareClass(1, 1, 2, 1, 2);
        x.shareClass(1, 1, 2, 2, 1);
        x.shareClass(1, 1, 2, 2, 1);
        x.holder();
        x.issue(0, 0, 60);
        x.issue(0, 1, 10);
        x.issue(0, 2, 10);
        x.issue(0, 3, 10);
        // 30 for claims, 70 for 100 common ones
        due("classGets(100, 0)", x.classGets(100, 0), 42);
        due("classGets(100, 1)", x.classGets(100, 1), 24);
        due("classGets(100, 2)", x.classGets(100, 2), 17);
        // 130 - 30: 10 each for 2 and 3, which is twice the preference and not more
        due("classGets(130, 2)", x.classGets(130, 2), 20);
        due("classGets(130, 0)", x.classGets(130, 0), 60);
        // 170 - 30: 14 is too much for 2, so 10; then 130 / 90 too much for 3, so 10; 120 for 80
        due("converts(170)", x.converts(170), 0);
        due("classGets(170, 2)", x.classGets(170, 2), 20);
        due("classGets(170, 3)", x.classGets(170, 3), 20);
        due("classGets(170, 0)", x.classGets(170, 0), 90);
        due("classGets(170, 1)", x.classGets(170, 1), 40);
        // nobody to share with: all the rest is lost
        CapStacks y = new CapStacks();
        y.shareClass(1, 1, 2, 2, 1);
        y.shareClass(1, 3, 1, 0, 1);
        y.holder();
        y.issue(0, 1, 10);
        y.issue(0, 2, 1);
        due("converts(23)", y.converts(23), 0);
        due("classGets(23, 1)", y.classGets(23, 1), 20);
        due("classGets(23, 0)", y.classGets(23, 0), 0);
    }

    private static void convertingOneAfterAnother() {
        promise = 20;
        CapStacks x = new CapStacks();
        x.shareClass(1, 1, 1, 0, 1);
        x.shareClass(1, 2, 5, 0, 1);
        x.shareClass(3, 1, 1, 1, 2);
        x.holder();
        x.issue(0, 0, 100);
        x.issue(0, 1, 100);
        x.issue(0, 2, 100);
        // none: 0 gets 300, 1 gets 100, 2 gets 200; with 1: 200, 200, 200; 2 would get 200 then, no more
        due("converts(600)", x.converts(600), 2);
        due("converts(603)", x.converts(603), 6);
        due("classGets(603, 2)", x.classGets(603, 2), 201);
        due("classGets(602, 2)", x.classGets(602, 2), 200);
        due("classGets(602, 1)", x.classGets(602, 1), 201);
    }

    private static void holderGets() {
        promise = 22;
        CapStacks x = new CapStacks();
        x.shareClass(1, 1, 1, 1, 1);
        x.holder();
        x.holder();
        x.holder();
        x.issue(0, 0, 2);
        x.issue(1, 0, 1);
        x.issue(0, 1, 1);
        x.issue(0, 1, 1);
        x.issue(1, 1, 1);
        // 3 for the claim, 7 for six: 3 and 3 + 3
        due("classGets(10, 0)", x.classGets(10, 0), 3);
        due("classGets(10, 1)", x.classGets(10, 1), 6);
        due("holderGets(10, 0)", x.holderGets(10, 0), 2 + 4);
        due("holderGets(10, 1)", x.holderGets(10, 1), 1 + 2);
        due("holderGets(2, 0) rounds down for each class", x.holderGets(2, 0), 1);
        due("holderGets(2, 1)", x.holderGets(2, 1), 0);
        due("holderGets(0, 0)", x.holderGets(0, 0), 0);
        due("holderGets(10, 2)", x.holderGets(10, 2), 0);
        due("holderGets(10, 3)", x.holderGets(10, 3), INVALID);
        due("holderGets(10, -1)", x.holderGets(10, -1), INVALID);
        due("holderGets(-1, 0)", x.holderGets(-1, 0), INVALID);
        due("holderGets(10000000, 0)", x.holderGets(10000000, 0), INVALID);
        due("holderGets(9999999, 0)", x.holderGets(9999999, 0), 6666666);
    }

    private static void byGain() {
        promise = 23;
        CapStacks x = company();
        x.shareClass(50, 1, 9, 0, 1);
        x.issue(0, 0, 10);
        x.issue(0, 1, 10);
        x.issue(1, 2, 10);
        int[] nothing = {0, 1, 2, 3};
        int[] some = {2, 1, 0, 3};
        for (int place = 0; place < 4; place++) {
            due("byGain(0, " + place + ")", x.byGain(0, place), nothing[place]);
            due("byGain(125, " + place + ")", x.byGain(125, place), some[place]);
        }
        due("byGain(0, 4)", x.byGain(0, 4), NOT_FOUND);
        due("byGain(0, MAX)", x.byGain(0, Integer.MAX_VALUE), NOT_FOUND);
        due("byGain(0, -1)", x.byGain(0, -1), INVALID);
        due("byGain(-1, 0)", x.byGain(-1, 0), INVALID);
        due("byGain(10000000, 4)", x.byGain(10000000, 4), INVALID);
    }

    private static void undo() {
        promise = 24;
        CapStacks x = new CapStacks();
        for (int h = 0; h < 6; h++) {
            x.holder();
        }
        due("count(11)", x.count(11), 4);
        typeText(x, "abc");
        for (int left = 3; left >= 0; left--) {
            due("undo()", x.undo(), left);
            due("count(1)", x.count(1), 2 + left);
            due("count(11)", x.count(11), left);
        }
        due("undo()", x.undo(), NOT_POSSIBLE);
        due("count(12)", x.count(12), 3);
        undoOfEveryKind();
    }

    private static void undoOfEveryKind() {
        CapStacks x = company();
        x.issue(0, 0, 10);
        x.grant(0, 10, 1, 0, 1);
        x.pass(1);
        x.round(1, 4, 1);
        x.takeUp(0, 2);
        x.leave(0);
        x.close();
        x.take(0, 3);
        x.undo();
        due("count(9)", x.count(9), 0);
        due("grantOf(0, 4)", x.grantOf(0, 4), 0);
        x.undo();
        due("count(6)", x.count(6), 1);
        due("count(10)", x.count(10), 0);
        due("roundOf(0, 1)", x.roundOf(0, 1), 2);
        x.undo();
        due("holderOf(0, 6)", x.holderOf(0, 6), NOT_FOUND);
        x.undo();
        due("roundOf(0, 1)", x.roundOf(0, 1), 0);
        x.shareClass(1, 1, 1, 1, 1);
        x.undo();
        due("count(0)", x.count(0), 3);
        due("undo() of nothing", x.undo(), NOT_POSSIBLE);
        x.issue(9, 9, 9);
        x.count(0);
        x.converts(5);
        x.type('a');
        x.clearText();
        due("count(11) after no changes", x.count(11), 0);
    }

    private static void type() {
        promise = 25;
        CapStacks x = new CapStacks();
        due("type(31)", x.type(31), INVALID);
        due("type(127)", x.type(127), INVALID);
        due("type(-1)", x.type(-1), INVALID);
        due("type(32 + 65536)", x.type(32 + 65536), INVALID);
        due("type(32)", x.type(32), 1);
        due("type(126)", x.type(126), 2);
        for (int i = 3; i <= 80; i++) {
            due("type('x')", x.type('x'), i);
        }
        due("type('x'), the 81st", x.type('x'), LIMIT);
        due("type(31), the 81st", x.type(31), INVALID);
        due("count(12)", x.count(12), 80);
        due("count(11)", x.count(11), 0);
    }

    private static void clearText() {
        promise = 26;
        CapStacks x = new CapStacks();
        due("clearText()", x.clearText(), 0);
        typeText(x, "pass 1;");
        due("clearText()", x.clearText(), 7);
        due("count(12)", x.count(12), 0);
        due("clearText()", x.clearText(), 0);
        typeText(x, "pass 2;");
        due("play()", x.play(), 1);
        due("count(4)", x.count(4), 2);
    }

    private static void fault() {
        promise = 27;
        CapStacks x = company();
        x.issue(0, 0, 10);
        due("fault(-1)", x.fault(-1), INVALID);
        due("fault(3)", x.fault(3), INVALID);
        String[] malformed = {";", " ", "pass", "pass 1", "pass 1 ;", "pass  1;", " pass 1;", "pass 1;;", "pass 1; pass 1;",
            "pass 00001;", "pass;", "pass ;", "pass -1;", "pass 1 1;", "Pass 1;", "passx 1;", "pass1;", "pas 1;", "pass 1a;",
            "issue 0 0;", "issue 0 0 1 1;", "split 0 1;", "back 0;", "grant 0 1 1 1;", "grant 0 1 1 1 1 1;", "take 0;",
            "leave 0 0;", "holder;", "round 1 1 0;", "issue 0  0 1;", "issue 0 0 10000;", "~", "pass 1.;"};
        for (String text : malformed) {
            int position = text.startsWith("pass 1;") ? 7 : 0;
            faultIs(x, text, position, 1, NOT_FOUND);
        }
        faultIs(x, "pass 0;", 0, 2, INVALID);
        faultIs(x, "pass 100;", 0, 2, INVALID);
        faultIs(x, "issue 2 0 1;", 0, 2, INVALID);
        faultIs(x, "split 0 0 1;", 0, 2, INVALID);
        faultIs(x, "back 0 4;back 0 7;", 9, 2, INVALID);
        faultIs(x, "leave 0;leave 0;", 8, 2, NOT_POSSIBLE);
        faultIs(x, "leave 0;grant 0 1 0 0 1;;", 8, 2, NOT_POSSIBLE);
        faultIs(x, "grant 0 1 0 1 1;take 0 1;", 16, 2, NOT_POSSIBLE);
        faultIs(x, "leave 0;;leave 0;", 8, 1, NOT_FOUND);
        for (int i = 0; i < 10; i++) {
            x.pass(98);
        }
        faultIs(x, "pass 19;pass 1;", 8, 2, LIMIT);
        for (String end : new String[] {"pass 11111", "issue 0 01", "pass 1;pas", "issue 0 0 ", "leave 0   "}) {
            x.clearText();
            faultIs(x, "pass 1;".repeat(10) + end, end.startsWith("pass 1;") ? 77 : 70, 1, NOT_FOUND);
        }
        newText(x, "pass 1;");
        faultIs(x, "pass 1", 0, 1, NOT_FOUND);
        due("count(4) is as it was", x.count(4), 980);
        due("holderOf(0, 6) is as it was", x.holderOf(0, 6), NOT_FOUND);
        due("certificateOf(0, 2) is as it was", x.certificateOf(0, 2), 10);
    }

    private static void play() {
        promise = 28;
        CapStacks x = company();
        due("play() of no text", x.play(), 0);
        due("count(11)", x.count(11), 4);
        plays(x, "issue 0 1 0010;split 0 1 4;back 1 3;", 3);
        due("certificateOf(0, 2)", x.certificateOf(0, 2), 6);
        due("certificateOf(1, 2)", x.certificateOf(1, 2), 1);
        due("count(12) after play()", x.count(12), 36);
        due("undo()", x.undo(), 3);
        due("count(2)", x.count(2), 0);
        plays(x, "grant 1 0024 3 2 12;pass 0006;take 0 12;leave 1;pass 3;", 5);
        due("count(9)", x.count(9), 36);
        due("holderOf(1, 6)", x.holderOf(1, 6), 6);
        due("holderOf(1, 0)", x.holderOf(1, 0), 12);
        due("count(4)", x.count(4), 9);
        due("count(7)", x.count(7), 12);
        plays(x, "pass 1;pass 1;pass 1;pass 1;pass 1;pass 1;pass 1;pass 1;pass 1;pass 1;pass 01;", 11);
        due("count(4)", x.count(4), 20);
        due("play() again", x.play(), 11);
        due("count(4)", x.count(4), 31);
        due("undo()", x.undo(), 3);
        due("count(4)", x.count(4), 20);
    }

    /** An object is used for at most 512 calls; the last one of them answers as the first ones do. */
    private static void lastCalls() {
        promise = 0;
        CapStacks x = new CapStacks();
        for (int i = 0; i < 127; i++) {
            due("pass(1)", x.pass(1), 1);
            due("pass(2)", x.pass(2), 3);
            due("undo()", x.undo(), 1);
            due("undo()", x.undo(), 0);
        }
        due("holder(), call 509", x.holder(), 0);
        due("issue(0, 0, 9), call 510", x.issue(0, 0, 9), 0);
        due("count(11), call 511", x.count(11), 2);
        due("holderGets(100, 0), call 512", x.holderGets(100, 0), 100);
    }

    private static void wildArguments() {
        promise = 0;
        CapStacks x = company();
        x.issue(0, 0, 10);
        for (int a : WILD) {
            due("issue", x.issue(a, a, a), INVALID);
            due("split", x.split(a, a, a), INVALID);
            due("buyBack", x.buyBack(a, a), INVALID);
            due("grant", x.grant(a, a, a, a, a), INVALID);
            due("take", x.take(a, a), INVALID);
            due("leave", x.leave(a), INVALID);
            due("round", x.round(a, a, a), INVALID);
            due("takeUp", x.takeUp(a, a), INVALID);
            due("roundOf", x.roundOf(a, a), INVALID);
            due("classOf", x.classOf(a, a), INVALID);
            due("certificateOf", x.certificateOf(a, a), INVALID);
            due("grantOf", x.grantOf(a, a), INVALID);
            due("holderOf", x.holderOf(a, a), INVALID);
            due("count", x.count(a), INVALID);
            due("classGets", x.classGets(a, a), INVALID);
            due("holderGets", x.holderGets(a, a), INVALID);
            due("fault", x.fault(a), INVALID);
        }
        due("count(11)", x.count(11), 4);
    }

    public static void main(String[] args) {
        newObject();
        shareClass();
        holder();
        issue();
        split();
        buyBack();
        grant();
        take();
        leave();
        pass();
        round();
        takeUp();
        close();
        roundOf();
        classOf();
        certificateOf();
        grantOf();
        holderOf();
        count();
        exits();
        sameRank();
        participation();
        convertingOneAfterAnother();
        holderGets();
        byGain();
        undo();
        type();
        clearText();
        fault();
        play();
        lastCalls();
        wildArguments();
        System.out.println(wrong == 0 ? tested + " answers are as due" : wrong + " answers are not as due");
        if (wrong != 0) {
            System.exit(1);
        }
    }
}
