/** Each promise of the document by hand: ordinary inputs, the edges that the document names, wrong inputs. */
public final class PromisesTest {
    private static final int BAD = -1, NOT = -2, FULL = -3, NONE = -4, NULL = -11, CAST = -12, INDEX = -13, SIZE = -14;
    private static final int LIGHT = 2;
    private static final int LEAST = Integer.MIN_VALUE, MOST = Integer.MAX_VALUE;

    private static int promise = 0, answers = 0, wrong = 0;

    private static void due(String what, int got, int want) {
        answers++;
        if (got != want) {
            wrong++;
            System.out.println("promise " + promise + ": " + what + " is " + got + ", due is " + want);
        }
    }

    private static int typed(SixBeds x, String text) {
        int length = 0;
        for (int at = 0; at < text.length(); at += 8) {
            String some = text.substring(at, Math.min(text.length(), at + 8));
            long w = 0;
            for (char c : some.toCharArray()) {
                w = w << 8 | c;
            }
            length = x.type(w, some.length());
        }
        return length;
    }

    private static SixBeds house(String text) {
        SixBeds x = new SixBeds();
        typed(x, text);
        x.lodging();
        return x;
    }

    private static void lodging(String text, int want) {
        SixBeds x = new SixBeds();
        typed(x, text);
        due("lodging of \"" + text + "\"", x.lodging(), want);
    }

    private static void fillSheet(SixBeds x, int sheet, int lane, long... items) {
        x.sheet(sheet, lane, items.length);
        for (int i = 0; i < items.length; i++) {
            x.item(sheet, lane, i, items[i]);
        }
    }

    /** A house in which a row, told by a sheet that is dropped then, is laid. */
    private static SixBeds laid(String text, int beds, long... row) {
        SixBeds x = house(text);
        x.beds(beds);
        fillSheet(x, 0, 0, row);
        x.lay(0, 0, 0);
        x.drop(0);
        return x;
    }

    private static void row(SixBeds x, int... want) {
        for (int l = 0; l < want.length; l++) {
            due("told(" + l + ", 4)", x.told(l, 4), want[l]);
        }
    }

    private static void firstRow(SixBeds x, int... want) {
        for (int l = 0; l < want.length; l++) {
            due("first(" + l + ")", x.first(l), want[l]);
        }
    }

    private static void newObject() {
        SixBeds x = new SixBeds();
        due("LODGERS", x.count(0), 0);
        due("BEDS", x.count(1), 6);
        due("sleep", x.count(2), 0);
        due("a ROW", x.count(3), 0);
        due("a GOOD ROW", x.count(4), 0);
        due("lasts", x.lasts(7), 7);
        due("an image", x.restore(), NONE);
        for (int s = 0; s < 4; s++) {
            due("sheet " + s, x.drop(s), NULL);
        }
        due("the tape", x.lodging(), -20);
        SixBeds other = new SixBeds();
        x.lodger(0, 1, 0);
        due("another object's LODGERS", other.count(0), 0);
    }

    private static void lodger() {
        SixBeds x = new SixBeds();
        due("kind -1", x.lodger(-1, 1, 0), BAD);
        due("kind 4", x.lodger(4, 1, 0), BAD);
        due("need 0", x.lodger(0, 0, 0), BAD);
        due("need 5", x.lodger(0, 5, 0), BAD);
        due("work -1", x.lodger(0, 1, -1), BAD);
        due("work 256", x.lodger(0, 1, 256), BAD);
        due("far off", x.lodger(LEAST, MOST, LEAST), BAD);
        due("nobody came", x.count(0), 0);
        for (int l = 0; l < 7; l++) {
            x.take();
            due("lodger " + l, x.lodger(l % 4, 1 + l % 4, l * 42), l);
            due("as LODGERS come there is no ROW", x.count(3), 0);
        }
        x = house("p1,p1,p1,p1,p1,p1,p1");
        x.take();
        due("the eighth", x.lodger(0, 1, 0), FULL);
        due("BAD ahead of FULL", x.lodger(0, 1, 256), BAD);
        due("who is refused leaves the ROW", x.count(3), 1);
    }

    private static void leave() {
        SixBeds x = house("p1w0,s2w1,l3w2");
        x.take();
        due("no such one", x.leave(3), BAD);
        due("below 0", x.leave(-1), BAD);
        due("the ROW stays", x.count(3), 1);
        due("one goes", x.leave(1), 2);
        due("no ROW then", x.count(3), 0);
        due("0 stays", x.told(0, 2), 1);
        due("2 is 1: kind", x.told(1, 0), LIGHT);
        due("2 is 1: need", x.told(1, 1), 3);
        due("2 is 1: work", x.told(1, 2), 4);
        due("2 is 1: may", x.told(1, 3), 0b11111000);
        due("no 2", x.told(2, 0), BAD);
        due("the last but one", x.leave(1), 1);
        due("the last", x.leave(0), 0);
        due("nobody is left", x.leave(0), BAD);
    }

    private static void told() {
        SixBeds x = house("p3w012,s3w345,l2,n4w67,p4w0246,p1w0123456");
        int[][] want = {{0, 3, 7, 56, NONE}, {1, 3, 56, 64, NONE}, {2, 2, 0, 255, NONE}, {3, 4, 192, 7, NONE}, {0, 4, 85, 0, NONE}, {0, 1, 127, 128, NONE}};
        for (int l = 0; l < want.length; l++) {
            for (int what = 0; what < 5; what++) {
                due("told(" + l + ", " + what + ")", x.told(l, what), want[l][what]);
            }
        }
        due("told(0, -1)", x.told(0, -1), BAD);
        due("told(0, 5)", x.told(0, 5), BAD);
        due("told(6, 0)", x.told(6, 0), BAD);
        due("told(-1, 0)", x.told(-1, 0), BAD);
        due("told(6, 4)", x.told(6, 4), BAD);
        row(laid("p1,p2", 6, 3, 7), 3, 7);
    }

    private static void work() {
        SixBeds x = laid("p1w0,p2", 6, 1, 2);
        due("no such lodger", x.work(2, 0), BAD);
        due("256", x.work(0, 256), BAD);
        due("-1", x.work(0, -1), BAD);
        due("what it was", x.work(0, 255), 1);
        due("is now", x.told(0, 2), 255);
        due("may nowhere", x.told(0, 3), 0);
        due("the ROW stays", x.told(0, 4), 1);
        due("but is not GOOD", x.count(4), 0);
        due("the other's is unchanged", x.work(1, 4), 0);
        due("set back", x.work(0, 0), 255);
        due("and again", x.work(0, 3), 0);
    }

    private static void sleeps() {
        SixBeds x = house("p1,p4,s1,s2,s3,s4,n3");
        int[][] want = {{1, 128}, {15, 0b10000111}, {1, 128}, {0b10001, 0b10001000}, {0b10011, 0b10001001}, {0b10111, 0b10001011}, {7, 0b10000011}};
        for (int l = 0; l < want.length; l++) {
            due("sleeps(" + l + ", 0)", x.sleeps(l, 0), want[l][0]);
            due("sleeps(" + l + ", 7)", x.sleeps(l, 7), want[l][1]);
        }
        due("light", house("l4").sleeps(0, 6), 0b11000011);
        due("whatever the work", house("p2w01").sleeps(0, 0), 3);
        due("part 8", x.sleeps(0, 8), BAD);
        due("part -1", x.sleeps(0, -1), BAD);
        due("no such lodger", x.sleeps(7, 0), BAD);
        due("lodger -1", x.sleeps(-1, 0), BAD);
    }

    private static void beds() {
        SixBeds x = laid("p1,p1", 6, 0, 0);
        due("0", x.beds(0), BAD);
        due("8", x.beds(8), BAD);
        due("far off", x.beds(LEAST), BAD);
        due("is GOOD", x.count(4), 1);
        due("1", x.beds(1), 6);
        due("there are", x.count(1), 1);
        due("is not GOOD", x.count(4), 0);
        due("the ROW stays", x.count(3), 1);
        due("7", x.beds(7), 1);
        due("is GOOD again", x.count(4), 1);
    }

    private static void lasts() {
        SixBeds x = laid("p1,p1", 6, 0, 1);
        due("0", x.lasts(0), BAD);
        due("10", x.lasts(10), BAD);
        due("1", x.lasts(1), 7);
        due("one day behind the first", x.sick(1, 1), 3);
        due("then only who got it on day 1", x.sick(1, 2), 2);
        due("then nobody", x.sick(1, 3), 0);
        due("9", x.lasts(9), 1);
        due("nine days", x.sick(1, 9), 3);
        due("ten", x.sick(1, 10), 2);
        due("eleven", x.sick(1, 11), 0);
    }

    private static void type() {
        SixBeds x = new SixBeds();
        due("n 0", x.type(65, 0), BAD);
        due("n 9", x.type(65, 9), BAD);
        due("n far off", x.type(65, LEAST), BAD);
        due("31", x.type(31, 1), BAD);
        due("127", x.type(127, 1), BAD);
        due("255", x.type(255, 1), BAD);
        due("a wrong one within", x.type(0x410041, 3), BAD);
        due("a wrong one first", x.type(0x1F41, 2), BAD);
        due("bytes above n count for nothing", x.type(0xFFFFFFFFFFFFFF70L, 1), 1);
        due("the highest first", x.type(0x3477L, 2), 3);
        due("behind it", x.type(0x37, 1), 4);
        due("p4w7", x.lodging(), 1);
        due("need", x.told(0, 1), 4);
        due("work", x.told(0, 2), 128);
        for (int k = 1; k <= 12; k++) {
            due("eight more", x.type(0x2020202020202020L, 8), 8 * k);
        }
        due("five", x.type(0x2020202020L, 5), FULL);
        due("BAD ahead of FULL", x.type(0x1F20202020L, 5), BAD);
        due("four, the edge 126 too", x.type(0x7E202020L, 4), 100);
        due("one", x.type(32, 1), FULL);
        due("the first that can't stand", x.lodging(), -20 - 96);
        due("empty again", x.type(32, 1), 1);
    }

    private static void lodgingTexts() {
        lodging("", -20);
        lodging("   ", -23);
        lodging("x1", -20);
        lodging("  P1", -22);
        lodging("p", -21);
        lodging("p ", -22);
        lodging("p0", -21);
        lodging("p5", -21);
        lodging("p1w", -23);
        lodging("p1w ", -24);
        lodging("p1w8", -23);
        lodging("p1w,", -23);
        lodging("p1w00", -24);
        lodging("p1w0 0", -25);
        lodging("p1w012345670", -31);
        lodging("p1w012345678", -31);
        lodging("p1w01234567", 1);
        lodging("p1w0w", -24);
        lodging("p1 1", -23);
        lodging("p1,", -23);
        lodging("p1,,", -23);
        lodging(",p1", -20);
        lodging("p1;", -22);
        lodging("p1p1", -22);
        lodging(" p 1 w 0 7 , s 4 ", 2);
        lodging("p1,p1,p1,p1,p1,p1,p1", 7);
        lodging("p1,p1,p1,p1,p1,p1,p1,", -40);
        lodging("p1,p1,p1,p1,p1,p1,p1,p1", -40);
        lodging("p1,p1,p1,p1,p1,p1,p1w7", 7);
        SixBeds x = house("p1w0,s2w13,l3,n4w7");
        int[][] want = {{0, 1, 1}, {1, 2, 10}, {2, 3, 0}, {3, 4, 128}};
        for (int l = 0; l < 4; l++) {
            for (int what = 0; what < 3; what++) {
                due("told(" + l + ", " + what + ")", x.told(l, what), want[l][what]);
            }
        }
        x.beds(5);
        x.lasts(3);
        x.take();
        typed(x, "p1,p2,q");
        due("a FAULT", x.lodging(), -26);
        due("those told stay", x.count(0), 4);
        due("with the ROW", x.count(3), 1);
        due("THE TAPE is empty", x.lodging(), -20);
        typed(x, "n2");
        due("in place of all", x.lodging(), 1);
        due("one", x.count(0), 1);
        due("no ROW", x.count(3), 0);
        due("BEDS stay", x.count(1), 5);
        due("LASTS stay", x.lasts(3), 3);
        due("work is new", x.told(0, 2), 0);
        due("THE TAPE is empty", x.lodging(), -20);
    }

    private static void count() {
        SixBeds x = house("p4,s4,l1");
        x.beds(2);
        due("LODGERS", x.count(0), 3);
        due("BEDS", x.count(1), 2);
        due("sleep", x.count(2), 9);
        due("a ROW", x.count(3), 0);
        due("a GOOD one", x.count(4), 0);
        due("take", x.take(), 3);
        due("a ROW", x.count(3), 1);
        due("a GOOD one", x.count(4), 1);
        x.beds(1);
        due("a ROW", x.count(3), 1);
        due("not GOOD", x.count(4), 0);
        due("-1", x.count(-1), BAD);
        due("5", x.count(5), BAD);
    }

    private static void first() {
        SixBeds x = house("p1,p1,p1");
        x.beds(2);
        firstRow(x, 0, 0, 1);
        x.beds(1);
        firstRow(x, 0, 1, 2);
        due("no such lodger", x.first(3), BAD);
        due("-1", x.first(-1), BAD);
        x.work(1, 255);
        due("there is none", x.first(0), NONE);
        due("BAD ahead of NONE", x.first(3), BAD);
        firstRow(house("l2,n2"), 0, 2);
        firstRow(house("n2,n2,l3,p4"), 0, 0, 2, 0);
        // 0 must leave room for one who may begin nowhere else.
        SixBeds y = house("p4,p2w234567");
        y.beds(1);
        firstRow(y, 2, 0);
        // 4 and 4 of a siesta: 0 1 2 4 and 5 6 7 1 share 1.
        SixBeds z = house("s4,s4");
        z.beds(1);
        due("they can't share a bed", z.first(0), NONE);
        due("nobody", new SixBeds().first(0), BAD);
    }

    private static void ways() {
        due("nobody", new SixBeds().ways(), 1);
        due("one", house("p1").ways(), 8);
        due("one who works", house("p2w0").ways(), 6);
        SixBeds x = house("p1,p1,p1");
        due("three free ones", x.ways(), 512);
        x.beds(2);
        due("not all three at once", x.ways(), 504);
        x.beds(1);
        due("each by oneself", x.ways(), 336);
        due("light and snorer", house("l1,n1").ways(), 56);
        due("snorers", house("n1,n1").ways(), 64);
        due("light ones", house("l1,l1").ways(), 64);
        due("4096", house("p1,p1,p1,p1").ways(), 4096);
        due("of 32768", house("p1,p1,p1,p1,p1").ways(), 9999);
        due("of 9604", house("p1w0,p1w1,p1w2,p1w3,p1w234567,p1w234567").ways(), 9604);
        due("of 14406", house("p1w0,p1w1,p1w2,p1w3,p1w23456,p1w234567").ways(), 9999);
        due("none", house("p1,p4w04").ways(), 0);
    }

    private static void fewest() {
        due("nobody", new SixBeds().fewest(), 1);
        due("two halves", house("p4,n4").fewest(), 1);
        due("two siestas", house("s4,s4").fewest(), 2);
        due("all at once", house("p1w0123456,p1w0123456,p1w0123456,p1w0123456,p1w0123456,p1w0123456,p1w0123456").fewest(), 7);
        due("six at once", house("p1w0123456,p1w0123456,p1w0123456,p1w0123456,p1w0123456,p1w0123456").fewest(), 6);
        due("seven of four", house("p4,p4,p4,p4,p4,p4,p4").fewest(), 4);
        due("work in the way", house("p1,p1w01234567").fewest(), NONE);
        due("snoring in the way", house("l1w0123456,n1w0123456").fewest(), NONE);
        SixBeds x = house("p1w0123456,p1w0123456");
        x.beds(1);
        due("BEDS don't count", x.fewest(), 2);
        due("BEDS stay", x.count(1), 1);
    }

    private static void take() {
        SixBeds x = new SixBeds();
        due("nobody", x.take(), 0);
        due("a ROW", x.count(3), 1);
        x = house("p1,p1,p1");
        x.beds(1);
        due("three", x.take(), 3);
        row(x, 0, 1, 2);
        x.beds(2);
        row(x, 0, 1, 2);
        due("again", x.take(), 3);
        row(x, 0, 0, 1);
        x.work(0, 255);
        due("there is none", x.take(), NONE);
        row(x, 0, 0, 1);
    }

    private static void move() {
        SixBeds x = house("p1,p2");
        due("no ROW", x.move(0, 1), NOT);
        due("BAD ahead of NOT", x.move(0, 8), BAD);
        x.take();
        due("what it was", x.move(1, 7), 0);
        row(x, 0, 7);
        due("what it was", x.move(1, 3), 7);
        due("no such lodger", x.move(2, 0), BAD);
        due("lodger -1", x.move(-1, 0), BAD);
        due("part -1", x.move(0, -1), BAD);
        row(x, 0, 3);
        x.work(0, 128);
        due("where one may not", x.move(0, 7), 0);
        due("is not GOOD", x.count(4), 0);
        due("FIRST stays", x.first(1), 0);
    }

    private static void mendedIs(SixBeds x, int changes, int... want) {
        due("mended(-1)", x.mended(-1), changes);
        for (int l = 0; l < want.length; l++) {
            due("mended(" + l + ")", x.mended(l), want[l]);
        }
    }

    private static void mended() {
        due("no ROW", house("p1").mended(-1), NOT);
        due("BAD ahead of NOT", house("p1").mended(1), BAD);
        SixBeds x = new SixBeds();
        x.take();
        mendedIs(x, 0);
        due("nobody's", x.mended(0), BAD);
        mendedIs(laid("p1,p1", 2, 5, 5), 0, 5, 5);
        SixBeds y = laid("p1,p1", 1, 5, 5);
        mendedIs(y, 1, 0, 5);
        row(y, 5, 5);
        due("-2", y.mended(-2), BAD);
        due("2", y.mended(2), BAD);
        // Either light one or the snorer between them moves: the snorer alone is fewest.
        mendedIs(laid("l1,n1,l1", 6, 3, 3, 3), 1, 3, 0, 3);
        // Where one may not begin one must move, and the first place that leaves the other two is not 0.
        mendedIs(laid("p1w7,p1,p1", 1, 7, 0, 1), 1, 2, 0, 1);
        mendedIs(laid("p1,p1,p1", 1, 4, 4, 4), 2, 0, 1, 4);
        SixBeds z = laid("p1,p1w01234567", 6, 0, 0);
        due("there is no GOOD ROW", z.mended(-1), NONE);
        due("of one", z.mended(0), NONE);
        z.work(1, 1);
        mendedIs(z, 1, 0, 1);
        z.move(1, 6);
        mendedIs(z, 0, 0, 6);
    }

    private static void rentsAre(SixBeds x, int sum, int... want) {
        due("rents(-1)", x.rents(-1), sum);
        for (int p = 0; p < want.length; p++) {
            due("rents(" + p + ")", x.rents(p), want[p]);
        }
    }

    private static void rents() {
        rentsAre(new SixBeds(), 0, 0, 0, 0, 0, 0, 0, 0, 0);
        SixBeds x = house("p1,p1");
        rentsAre(x, 0, 0, 0, 0, 0, 0, 0, 0, 0);
        due("8", x.rents(8), BAD);
        due("-2", x.rents(-2), BAD);
        x.beds(1);
        due("alike they do alike", x.rents(-1), NONE);
        due("of a PART", x.rents(0), NONE);
        due("BAD ahead of NONE", x.rents(8), BAD);
        // The second may begin with 0 or 1 alone, the first with 0, so only a rent of 0 sends the second to 1.
        SixBeds y = house("p1w1234567,p1w234567");
        y.beds(1);
        rentsAre(y, 1, 1, 0, 0, 0, 0, 0, 0, 0);
        // 0 or 2 for the first, 0 alone for the second, 2 or 4 for the third.
        SixBeds z = house("p1w134567,p1w1234567,p1w013567");
        z.beds(1);
        rentsAre(z, 3, 2, 0, 1, 0, 0, 0, 0, 0);
        due("who may begin nowhere", house("p1,p1w01234567").rents(-1), NONE);
        rentsAre(house("l1,n1"), NONE);
        // By 1 1 the light one begins with 2, where the snorer works.
        rentsAre(house("l1,n1w2"), 2, 1, 1, 0, 0, 0, 0, 0, 0);
        rentsAre(house("l1,n1w0"), 0, 0, 0, 0, 0, 0, 0, 0, 0);
        // A siesta of 0 and 4 or of 1 and 5: a rent of 0 or of 4 will do, and that of 4 is the first as a row.
        SixBeds s = house("p1w1234567,s2w2367");
        s.beds(1);
        rentsAre(s, 1, 0, 0, 0, 0, 1, 0, 0, 0);
    }

    private static void bedsAre(SixBeds x, int lodger, int... want) {
        for (int p = 0; p < 8; p++) {
            due("bed(" + lodger + ", " + p + ")", x.bed(lodger, p), want[p]);
        }
    }

    private static void bed() {
        SixBeds x = house("p3,p2");
        due("no ROW", x.bed(0, 0), NOT);
        due("no such lodger", x.bed(2, 0), BAD);
        due("lodger -1", x.bed(-1, 0), BAD);
        due("part 8", x.bed(0, 8), BAD);
        due("part -1", x.bed(0, -1), BAD);
        // In 0 lie 1 and 2, by numbers. In 1 the bed of 2 is free: 0 keeps it as 1 gets up. In 7 2 lies down beside 3.
        SixBeds y = laid("p3,p2,p2,n4", 3, 1, 0, 7, 4);
        bedsAre(y, 0, NONE, 1, 1, 1, NONE, NONE, NONE, NONE);
        bedsAre(y, 1, 0, 0, NONE, NONE, NONE, NONE, NONE, NONE);
        bedsAre(y, 2, 1, NONE, NONE, NONE, NONE, NONE, NONE, 1);
        bedsAre(y, 3, NONE, NONE, NONE, NONE, 0, 0, 0, 0);
        SixBeds seven = laid("p1,p1,p1,p1,p1,p1,p1", 7, 3, 3, 3, 3, 3, 3, 3);
        for (int l = 0; l < 7; l++) {
            due("seven in seven beds: " + l, seven.bed(l, 3), l);
        }
        SixBeds z = laid("p1,s3", 1, 2, 0);
        bedsAre(z, 1, 0, 0, NONE, NONE, 0, NONE, NONE, NONE);
        z.move(0, 1);
        due("not GOOD", z.bed(1, 0), NOT);
        due("BAD ahead of NOT", z.bed(2, 0), BAD);
        z.beds(2);
        due("GOOD", z.bed(1, 1), 0);
        due("the other bed", z.bed(0, 1), 1);
        z.beds(1);
        z.move(0, 5);
        due("by the new ROW", z.bed(0, 5), 0);
    }

    private static void linen() {
        due("no ROW", house("p1").linen(), NOT);
        SixBeds none = new SixBeds();
        none.take();
        due("nobody", none.linen(), 0);
        due("one", laid("p4", 6, 6).linen(), 0);
        due("one who naps in one's own", laid("s4", 6, 0).linen(), 0);
        due("a second", laid("p1,p1", 6, 0, 1).linen(), 1);
        due("beside", laid("p1,p1", 6, 0, 0).linen(), 0);
        SixBeds seven = laid("p1,p1,p1,p1,p1,p1,p1", 7, 3, 3, 3, 3, 3, 3, 3);
        due("seven in seven beds", seven.linen(), 0);
        due("and asked again", seven.linen(), 0);
        due("naps between", laid("s2,s2", 6, 0, 1).linen(), 3);
        due("not of the day ahead", laid("p4,p4", 1, 0, 4).linen(), 1);
        SixBeds x = laid("p1,p1", 1, 0, 0);
        due("not GOOD", x.linen(), NOT);
        x.move(1, 7);
        due("GOOD", x.linen(), 1);
    }

    private static void sick() {
        SixBeds x = house("p1,p1,p1");
        due("no ROW", x.sick(1, 1), NOT);
        due("a set of four", x.sick(8, 1), BAD);
        due("-1", x.sick(-1, 1), BAD);
        due("day 0", x.sick(1, 0), BAD);
        due("day 31", x.sick(1, 31), BAD);
        // 2 lies in bed 0 in 0, then 1, then 0.
        SixBeds y = laid("p1,p1,p1", 1, 2, 1, 0);
        due("from 0 nobody on day 1", y.sick(1, 1), 1);
        due("from 0 to 2, then 1 on day 2", y.sick(1, 2), 7);
        due("from 2 all on day 1", y.sick(4, 1), 7);
        due("from 1 to 0", y.sick(2, 1), 3);
        due("day 7", y.sick(4, 7), 7);
        due("day 8: 2 had it from day 0 on", y.sick(4, 8), 3);
        due("day 9: never again", y.sick(4, 9), 0);
        due("day 30", y.sick(4, 30), 0);
        due("nobody", y.sick(0, 30), 0);
        due("all", y.sick(7, 7), 7);
        due("all at once", y.sick(7, 8), 0);
        due("two", y.sick(5, 1), 7);
        y.lasts(1);
        due("0's is over on day 2, 2 lies down on it", y.sick(1, 2), 0);
        SixBeds z = laid("p1,p1", 1, 0, 0);
        due("not GOOD", z.sick(1, 1), NOT);
        SixBeds none = new SixBeds();
        none.take();
        due("of nobody", none.sick(0, 30), 0);
        due("1 of nobody", none.sick(1, 30), BAD);
        sickInOnePart();
    }

    /** Who sleeps on from 7 to 0 lies down anew, perhaps in another bed. */
    private static void sickInOnePart() {
        // In 0: 0 1 2 in beds 0 1 2; in 6: 1 in bed 0, where 0 lay; in 7: 0 in bed 1, where 1 lay.
        SixBeds x = laid("p2,p3,p1", 6, 7, 6, 0);
        due("to 1 in 6", x.sick(1, 1), 3);
        due("to 0 in 7", x.sick(2, 1), 3);
        due("2 lies by itself", x.sick(4, 7), 4);
        due("nobody comes to 2", x.sick(3, 7), 3);
        // In 0: 0 1 in beds 0 1; in 6: 2 in bed 0; in 7: 0 in bed 1. On day 2 in 0 it goes from 2 to 0 in bed 0,
        // then from 0, who has it since that very part, to 1 in bed 1.
        SixBeds y = laid("p2,p1,p2", 6, 7, 0, 6);
        due("day 1: 2 alone", y.sick(4, 1), 4);
        due("day 2: all", y.sick(4, 2), 7);
        // In 0: 0 1 in beds 0 1; in 6: 1 in bed 0; in 7: 2 in bed 1. On day 2 in 0 0 lies down where 1 lay ahead of 1,
        // who gets it then from 2: 0 has it on day 3.
        SixBeds z = laid("p1,p3,p1", 6, 0, 6, 7);
        due("day 1: 2 alone", z.sick(4, 1), 4);
        due("day 2: 1, too", z.sick(4, 2), 6);
        due("day 3: all", z.sick(4, 3), 7);
    }

    private static void brought() {
        SixBeds x = house("p1,p1,p1");
        due("no ROW", x.brought(1, 1), NOT);
        due("a set of four", x.brought(8, 1), BAD);
        due("-1", x.brought(-1, 1), BAD);
        due("day 0", x.brought(1, 0), BAD);
        due("day 31", x.brought(1, 31), BAD);
        SixBeds y = laid("p1,p1,p1", 1, 2, 1, 0);
        due("just 0 on day 1", y.brought(1, 1), 1);
        due("0 and 1 on day 1", y.brought(3, 1), 2);
        due("all on day 1", y.brought(7, 1), 4);
        due("all on day 2", y.brought(7, 2), 7);
        due("0 and 2", y.brought(5, 1), 0);
        due("nobody on day 1", y.brought(0, 1), 0);
        due("nobody on day 30", y.brought(0, 30), 7);
        y.beds(7);
        y.move(1, 2);
        y.move(2, 2);
        due("all apart", y.brought(2, 3), 2);
        y.beds(1);
        due("not GOOD", y.brought(2, 3), NOT);
    }

    private static void image() {
        SixBeds x = laid("p1w0,l2", 3, 4, 5);
        x.lasts(2);
        typed(x, "p1");
        fillSheet(x, 1, 1, 7, 6);
        due("image", x.image(), 1);
        x.item(1, 1, 0, 5);
        x.work(0, 2);
        x.lodger(0, 1, 0);
        x.beds(5);
        x.lasts(9);
        typed(x, ",p2");
        due("restore", x.restore(), 1);
        due("LODGERS", x.count(0), 2);
        due("BEDS", x.count(1), 3);
        due("work", x.told(0, 2), 1);
        row(x, 4, 5);
        due("LASTS", x.lasts(2), 2);
        due("SHEETS are as they are", x.judged(1, 1, 0), NONE);
        row(x, 4, 5);
        x.lay(1, 1, 0);
        row(x, 5, 6);
        due("so is THE TAPE", x.lodging(), 2);
    }

    private static void restore() {
        SixBeds x = house("p1");
        due("there is none", x.restore(), NONE);
        due("nothing changed", x.count(0), 1);
        x.image();
        x.take();
        due("restore", x.restore(), 1);
        due("there was no ROW then", x.count(3), 0);
        x.take();
        x.image();
        x.move(0, 5);
        due("once", x.restore(), 1);
        row(x, 0);
        x.move(0, 6);
        x.work(0, 1);
        due("and again", x.restore(), 1);
        row(x, 0);
        firstRow(x, 0);
        due("may begin", x.told(0, 3), 255);
        due("BEDS", x.bed(0, 0), 0);
        x.leave(0);
        x.image();
        due("of nobody", x.restore(), 1);
        due("nobody", x.count(0), 0);
    }

    private static void lay() {
        SixBeds x = house("p1,p1");
        due("nothing there", x.lay(0, 0, 0), NULL);
        due("sheet 4", x.lay(4, 0, 0), BAD);
        due("sheet -1", x.lay(-1, 0, 0), BAD);
        due("lane 3", x.lay(0, 3, 0), BAD);
        due("lane -1", x.lay(0, -1, 0), BAD);
        fillSheet(x, 0, 1, 3, 4, 8, 5);
        due("another lane", x.lay(0, 0, 0), CAST);
        due("CAST ahead of INDEX", x.lay(0, 0, 9), CAST);
        due("-1", x.lay(0, 1, -1), INDEX);
        due("beyond the end", x.lay(0, 1, 3), INDEX);
        due("far off", x.lay(0, 1, MOST), INDEX);
        due("8", x.lay(0, 1, 1), NOT);
        due("8 first", x.lay(0, 1, 2), NOT);
        due("still no ROW", x.count(3), 0);
        due("GOOD", x.lay(0, 1, 0), 1);
        row(x, 3, 4);
        x.work(0, 8);
        due("not GOOD", x.lay(0, 1, 0), 0);
        row(x, 3, 4);
        fillSheet(x, 1, 2, 1L << 32, 0, 1, 2, -1);
        due("a long is not cut", x.lay(1, 2, 0), NOT);
        due("the longs behind it", x.lay(1, 2, 2), 1);
        due("-1", x.lay(1, 2, 3), NOT);
        row(x, 1, 2);
        SixBeds none = new SixBeds();
        due("NULL ahead of NOT", none.lay(0, 0, 0), NULL);
        none.sheet(0, 0, 2);
        due("no LODGER", none.lay(0, 0, 2), NOT);
        due("above how many there are", none.lay(0, 0, 3), INDEX);
        due("no ROW", none.count(3), 0);
    }

    private static void judged() {
        SixBeds x = house("p1w0,l2,n2,p1");
        x.beds(2);
        due("nothing there", x.judged(0, 0, 0), NULL);
        due("sheet 4", x.judged(4, 0, 0), BAD);
        due("lane 3", x.judged(0, 3, 0), BAD);
        fillSheet(x, 0, 0, 0, 0, 0, 0, 1, 0, 2, 2, 9);
        due("another lane", x.judged(0, 1, 0), CAST);
        due("-1", x.judged(0, 0, -1), INDEX);
        due("the row is not all there, though 0 would do", x.judged(0, 0, 6), INDEX);
        due("work", x.judged(0, 0, 0), 0);
        due("light and snorer", x.judged(0, 0, 3), 0);
        due("GOOD", x.judged(0, 0, 4), NONE);
        due("not 0 .. 7", x.judged(0, 0, 5), 0);
        fillSheet(x, 1, 2, 1, 0, 1, 2, 2, 0, 2, 8, 3, 0, 2, 1L << 33, 3, 0, 2, 3);
        due("the snorer in 1", x.judged(1, 2, 0), 2);
        due("item 8", x.judged(1, 2, 4), 3);
        due("a long", x.judged(1, 2, 8), 3);
        due("three in 3 of 2: 0, 2 and 3", x.judged(1, 2, 12), 3);
        due("nothing is changed", x.count(3), 0);
        SixBeds none = new SixBeds();
        none.sheet(0, 0, 0);
        due("nobody", none.judged(0, 0, 0), NONE);
        due("nobody at 1", none.judged(0, 0, 1), INDEX);
    }

    private static void clears() {
        SixBeds x = house("p1w1234567,p1w234567");
        x.beds(1);
        due("nothing there", x.clears(0, 0, 0), NULL);
        due("sheet 4", x.clears(4, 0, 0), BAD);
        due("lane 3", x.clears(0, 3, 0), BAD);
        fillSheet(x, 0, 0, 0, 1, 0, 0, 0, 0, 0, 0, 2, 3);
        due("another lane", x.clears(0, 1, 0), CAST);
        due("-1", x.clears(0, 0, -1), INDEX);
        due("no eight", x.clears(0, 0, 3), INDEX);
        due("0 1 0 ..", x.clears(0, 0, 0), 0);
        due("1 0 0 ..", x.clears(0, 0, 1), 1);
        due("3", x.clears(0, 0, 2), NOT);
        x.beds(2);
        due("two BEDS", x.clears(0, 0, 0), 1);
        x.work(1, 255);
        due("who may begin nowhere", x.clears(0, 0, 0), NOT);
        SixBeds none = new SixBeds();
        fillSheet(none, 3, 2, 2, 2, 2, 2, 2, 2, 2, 2, -1);
        due("nobody", none.clears(3, 2, 0), 1);
        due("-1", none.clears(3, 2, 1), NOT);
        // By 2 in 0 the siesta of 0 and 4 costs 2, that of 1 and 5 with 1 in each costs as much: the first of both.
        SixBeds s = house("s2w2367,p1w123567");
        s.beds(1);
        fillSheet(s, 0, 0, 2, 1, 0, 0, 0, 1, 0, 0);
        due("of like ones the first", s.clears(0, 0, 0), 0);
        fillSheet(s, 0, 0, 2, 1, 0, 0, 0, 0, 0, 0);
        due("one cheaper", s.clears(0, 0, 0), 1);
    }

    private static void sheet() {
        SixBeds x = house("p1");
        due("sheet 4", x.sheet(4, 0, 1), BAD);
        due("sheet -1", x.sheet(-1, 0, 1), BAD);
        due("lane 3", x.sheet(0, 3, 1), BAD);
        due("lane -1", x.sheet(0, -1, 1), BAD);
        due("17", x.sheet(0, 0, 17), BAD);
        due("-1", x.sheet(0, 0, -1), SIZE);
        due("far below", x.sheet(0, 0, LEAST), SIZE);
        due("BAD ahead of SIZE", x.sheet(0, 3, -1), BAD);
        due("still nothing", x.drop(0), NULL);
        due("0", x.sheet(0, 0, 0), 0);
        due("16", x.sheet(3, 2, 16), 16);
        x.item(3, 2, 0, 9);
        due("9 is there", x.judged(3, 2, 0), 0);
        due("a refused one leaves it", x.sheet(3, 2, -1), SIZE);
        due("9 is there yet", x.judged(3, 2, 0), 0);
        due("a new row", x.sheet(3, 2, 3), 3);
        due("of noughts", x.judged(3, 2, 0), NONE);
        x.sheet(3, 2, 16);
        x.item(3, 2, 15, 9);
        x.sheet(3, 2, 16);
        due("of noughts to the last", x.judged(3, 2, 15), NONE);
        due("another lane now", x.sheet(3, 0, 3), 3);
        due("its old lane", x.judged(3, 2, 0), CAST);
        due("three", x.judged(3, 0, 2), NONE);
        due("not four", x.judged(3, 0, 3), INDEX);
    }

    private static void drop() {
        SixBeds x = new SixBeds();
        due("4", x.drop(4), BAD);
        due("-1", x.drop(-1), BAD);
        due("nothing", x.drop(2), NULL);
        x.sheet(2, 1, 5);
        x.sheet(1, 1, 0);
        due("five", x.drop(2), 5);
        due("nothing then", x.drop(2), NULL);
        due("nor an item", x.item(2, 1, 0, 0), NULL);
        due("none", x.drop(1), 0);
    }

    private static void item() {
        SixBeds x = house("p1");
        due("nothing", x.item(0, 0, 0, 0), NULL);
        due("NULL ahead of INDEX", x.item(0, 0, -1, 0), NULL);
        due("sheet 4", x.item(4, 0, 0, 0), BAD);
        due("lane 3", x.item(0, 3, 0, 0), BAD);
        x.sheet(0, 0, 2);
        due("another lane", x.item(0, 1, 0, 0), CAST);
        due("-1", x.item(0, 0, -1, 0), INDEX);
        due("2", x.item(0, 0, 2, 0), INDEX);
        due("far off", x.item(0, 0, MOST, 0), INDEX);
        due("the lowest bits of a byte", x.item(0, 0, 1, 0x1205), 1);
        x.lay(0, 0, 1);
        row(x, 5);
        x.item(0, 0, 1, 0x85);
        due("with a sign", x.lay(0, 0, 1), NOT);
        x.sheet(1, 1, 1);
        x.item(1, 1, 0, 0x500000006L);
        due("of an int", x.lay(1, 1, 0), 1);
        row(x, 6);
        x.item(1, 1, 0, 256);
        due("an int is no byte", x.lay(1, 1, 0), NOT);
        x.sheet(2, 2, 1);
        x.item(2, 2, 0, 0x500000006L);
        due("a long is whole", x.lay(2, 2, 0), NOT);
        x.item(2, 2, 0, 4);
        due("a long", x.lay(2, 2, 0), 1);
        row(x, 4);
    }

    private static void film() {
        SixBeds x = house("p1,p1,p1");
        due("sheet 4", x.film(4, 0, 0), BAD);
        due("lane 3", x.film(0, 3, 0), BAD);
        due("NOT ahead of NULL", x.film(0, 0, 0), NOT);
        x.take();
        x.move(0, 5);
        x.move(1, 6);
        x.move(2, 7);
        due("nothing", x.film(0, 0, 0), NULL);
        x.sheet(0, 1, 5);
        due("another lane", x.film(0, 0, 0), CAST);
        due("-1", x.film(0, 1, -1), INDEX);
        due("3", x.film(0, 1, 3), INDEX);
        due("three", x.film(0, 1, 2), 3);
        x.lay(0, 1, 0);
        row(x, 0, 0, 5);
        x.lay(0, 1, 2);
        row(x, 5, 6, 7);
        x.beds(1);
        x.move(0, 6);
        due("one that is not GOOD, too", x.film(0, 1, 0), 3);
        x.lay(0, 1, 0);
        row(x, 6, 6, 7);
        SixBeds none = new SixBeds();
        none.take();
        none.sheet(0, 0, 2);
        due("nobody's", none.film(0, 0, 2), 0);
        due("nobody's at 3", none.film(0, 0, 3), INDEX);
    }

    private static void copy() {
        SixBeds x = house("p1,p1,p1,p1");
        fillSheet(x, 0, 0, 0, 1, 2, 3, 4);
        due("to nothing", x.copy(0, 0, 1, 0, 1), NULL);
        due("from nothing", x.copy(1, 0, 0, 0, 1), NULL);
        due("from 4", x.copy(4, 0, 0, 0, 1), BAD);
        due("to -1", x.copy(0, 0, -1, 0, 1), BAD);
        x.sheet(1, 1, 5);
        due("unlike lanes", x.copy(0, 0, 1, 0, 1), CAST);
        due("CAST ahead of INDEX", x.copy(0, -1, 1, 0, 1), CAST);
        x.sheet(1, 0, 4);
        due("n -1", x.copy(0, 0, 1, 0, -1), INDEX);
        due("i -1", x.copy(0, -1, 1, 0, 0), INDEX);
        due("j -1", x.copy(0, 0, 1, -1, 0), INDEX);
        due("i 6", x.copy(0, 6, 1, 0, 0), INDEX);
        due("j 5", x.copy(0, 0, 1, 5, 0), INDEX);
        due("none at both ends", x.copy(0, 5, 1, 4, 0), 0);
        due("one too many to", x.copy(0, 0, 1, 0, 5), INDEX);
        due("one too many from", x.copy(0, 2, 1, 0, 4), INDEX);
        due("far off", x.copy(0, MOST, 1, 0, MOST), INDEX);
        due("far off", x.copy(0, 1, 1, 1, MOST), INDEX);
        due("three", x.copy(0, 2, 1, 1, 3), 3);
        x.lay(1, 0, 0);
        row(x, 0, 2, 3, 4);
        due("to the same, behind", x.copy(0, 0, 0, 1, 4), 4);
        x.lay(0, 0, 1);
        row(x, 0, 1, 2, 3);
        fillSheet(x, 0, 0, 0, 1, 2, 3, 4);
        due("to the same, ahead", x.copy(0, 1, 0, 0, 4), 4);
        x.lay(0, 0, 0);
        row(x, 1, 2, 3, 4);
        x.lay(0, 0, 1);
        row(x, 2, 3, 4, 4);
    }

    public static void main(String[] args) {
        Runnable[] promises = {PromisesTest::newObject, PromisesTest::lodger, PromisesTest::leave, PromisesTest::told,
            PromisesTest::work, PromisesTest::sleeps, PromisesTest::beds, PromisesTest::lasts, PromisesTest::type,
            PromisesTest::lodgingTexts, PromisesTest::count, PromisesTest::first, PromisesTest::ways, PromisesTest::fewest,
            PromisesTest::take, PromisesTest::move, PromisesTest::mended, PromisesTest::rents, PromisesTest::bed,
            PromisesTest::linen, PromisesTest::sick, PromisesTest::brought, PromisesTest::image, PromisesTest::restore,
            PromisesTest::lay, PromisesTest::judged, PromisesTest::clears, PromisesTest::sheet, PromisesTest::drop,
            PromisesTest::item, PromisesTest::film, PromisesTest::copy};
        for (Runnable one : promises) {
            promise++;
            one.run();
        }
        System.out.println(wrong + " of " + answers + " answers are not as due");
        if (promise != 32 || wrong != 0) {
            System.exit(1);
        }
    }
}
