/** Sentences about the tape and the texts on it: the end of section 3, promises 9 and 10. */
final class TextEdges extends Edges {
    private static final int MOST = 100;

    private TextEdges() { }

    /** A text of its own is typed on a new object and read. */
    private static void text(String text, int due) {
        run("\"" + text + "\" = " + due);
    }

    /** The same, where two lodgers and a row are there already: by a fault they stay. */
    private static void fault(String text, int place) {
        run("\"p1,p1\"", "row 3 4 = 1", "\"" + text + "\" = " + (-20 - place), "count(0) = 2", "told(*, 4) = 3 4");
    }

    private static long word(int place, int sign) {
        return 0x2020202020202020L & ~(255L << 8 * place) | (long) sign << 8 * place;
    }

    // ---- section 3

    @Says("A LODGING is a TEXT: 1 to 7 LODGERS with , between:")
    static void oneToSevenLodgersWithCommasBetween() {
        text("p1", 1);
        text("p1,p1", 2);
        text("p1,p1,p1,p1,p1,p1,p1", 7);
        fault("p1,p1,p1,p1,p1,p1,p1,", 20);
        fault("p1,p1,p1,p1,p1,p1,p1,p1", 20);
        fault("p1,p1,p1,p1,p1,p1,p1w0,p1", 22);
        fault("", 0);
        fault(",", 0);
        fault(",p1", 0);
        fault("p1,,p1", 3);
        fault("p1p1", 2);
        fault("p1;p1", 2);
    }

    @Says("p s l n (KINDS in this order),")
    static void fourLettersOfKinds() {
        run("\"p1,s1,l1,n1\" = 4", "told(*, 0) = 0 1 2 3");
        for (char sign = 33; sign < 127; sign++) {
            if ("psln\"".indexOf(sign) < 0) {
                fault(sign + "1", 0);
                fault("p1," + sign + "1", 3);
            }
        }
    }

    @Says("a digit 1 .. 4 (NEED),")
    static void needsOfOneToFour() {
        run("\"p1,p2,p3,p4\" = 4", "told(*, 1) = 1 2 3 4");
        for (char sign = 33; sign < 127; sign++) {
            if ("1234\"".indexOf(sign) < 0) {
                fault("p" + sign, 1);
            }
        }
        fault("p11", 2);
    }

    @Says("perhaps w and 1 to 8 unlike digits 0 .. 7 (WORK):")
    static void workOfOneToEightDigits() {
        run("\"p1,p1w0,p1w7,p1w70,p1w76543210,s4w13,n2\" = 7", "told(*, 2) = 0 1 128 129 255 10 0");
        for (char sign = 33; sign < 127; sign++) {
            if ("01234567\"".indexOf(sign) < 0) {
                fault("p1w" + sign, 3);
            }
            if ("01234567,\"".indexOf(sign) < 0) {
                fault("p1w3" + sign, 4);
            }
            if (",w\"".indexOf(sign) < 0) {
                fault("p1" + sign, 2);
            }
        }
        fault("p1w012345678", 11);
        fault("p1w01234567w", 11);
    }

    @Says("in place of all LODGERS (there is no ROW then).")
    static void aLodgingIsInPlaceOfAllLodgers() {
        run(lodgers(7, "n4w0"), "beds(5)", "lasts(3)", "row 1 1 1 1 1 1 1 = 0", "\"s2\" = 1", "count(0) = 1", "told(0, 0) = 1", "told(0, 1) = 2",
            "told(0, 2) = 0", "told(0, 3) = 255", "told(0, 4) = NONE", "count(3) = 0", "told(1, 0) = BAD", "count(1) = 5", "lasts(3) = 3");
        run("take() = 0", "\"p1\" = 1", "count(3) = 0  # nobody's ROW, too");
    }

    @Says("FAULTS: -20 less the place of the first byte (behind blanks) that can't stand there")
    static void theFirstByteThatCannotStandThere() {
        fault("x", 0);
        fault("   x", 3);
        fault("p   x", 4);
        fault("p1   x", 5);
        fault("p1 w   x", 7);
        fault("p1w0   x", 7);
        fault("p1,   x", 6);
        fault("px,yz", 1);
        run(Run.typed(" ".repeat(99)), "type(0x78, 1) = 100", "lodging() = -119  # the last place of all");
    }

    @Says("(the end: how many bytes there are);")
    static void aTextThatEndsTooEarly() {
        fault("", 0);
        fault("p", 1);
        fault("p1w", 3);
        fault("p1,", 3);
        fault("p1w0,", 5);
        fault("   ", 3);
        fault("p  ", 3);
        fault("p1w ", 4);
        fault("p1,  ", 5);
        run(Run.typed(" ".repeat(MOST)), "lodging() = -120");
        run(Run.typed(" ".repeat(MOST - 1) + "p"), "lodging() = -120");
    }

    @Says("bytes 32 count for nothing;")
    static void blanksCountForNothing() {
        run("\"  p  1  w  0  7  ,  s  4  \" = 2", "told(*, 0) = 0 1", "told(*, 1) = 1 4", "told(*, 2) = 129 0");
        run(Run.typed(" ".repeat(MOST - 2) + "p1"), "lodging() = 1");
        run(Run.typed("p1" + " ".repeat(MOST - 2)), "lodging() = 1");
    }

    @Says("of a digit told twice the second.")
    static void ofADigitToldTwiceTheSecond() {
        for (int digit = 0; digit < 8; digit++) {
            fault("p1w" + digit + digit, 4);
            fault("p1w" + digit + (digit + 1) % 8 + digit, 5);
            fault("p1w01234567" + digit, 11);
        }
        fault("p1w0 1  0", 8);
        fault("p1w0,p1w11", 9);
        run("\"p1w0,p1w0\" = 2", "told(*, 2) = 1 1");
    }

    // ---- promise 9

    @Says(promise = 9, value = "The n lowest bytes (1 .. 8) of w,")
    static void theLowestBytesFromOneToEight() {
        run("type(0xFFFFFFFFFFFFFF70, 1) = 1", "type(0x0000000000003131, 1) = 2  # bytes above n count for nothing",
            "type(0x7777777777777777, 1) = 3", "type(0x8034333231303736, 7) = 10", "lodging() = 1", "told(0, 2) = 0b11011111");
        run("type(0x7031773031323334, 8) = 8", "lodging() = 1", "told(0, 2) = 0b00011111");
        for (int n = 1; n <= 8; n++) {
            run("type(0x2020202020202020, " + n + ") = " + n, "type(0x2020202020202020, " + n + ") = " + 2 * n);
        }
    }

    @Says(promise = 9, value = "of these the highest first, come behind THE TAPE: how many it has.")
    static void theHighestFirst() {
        run("type(0x7034, 2) = 2", "lodging() = 1", "told(0, 1) = 4");
        run("type(0x3470, 2) = 2", "lodging() = -20");
        run("type(0x70312C7332776C33, 8) = 8", "lodging() = -26");
        run("type(0x70, 1) = 1", "type(0x3277, 2) = 3", "type(0x37302C, 3) = 6", "type(0x6E34, 2) = 8", "lodging() = 2", "told(*, 1) = 2 4",
            "told(0, 2) = 129");
    }

    @Says(promise = 9, value = "BAD: n, a byte not 32 .. 126;")
    static void badNumbersOfBytes() {
        run("type(0x70, 1) = 1", bad("type(0x2020202020202020, %d)", beside(1, 8)), "type(0x31, 1) = 2", "lodging() = 1");
    }

    @Says(promise = 9, value = "a byte not 32 .. 126;")
    static void badBytesAtEachPlace() {
        for (int place = 0; place < 8; place++) {
            StringBuilder lines = new StringBuilder("type(0x70, 1) = 1\n");
            for (int sign : new int[] {0, 31, 127, 128, 159, 254, 255}) {
                lines.append("type(" + word(place, sign) + ", 8) = BAD\n");
                lines.append("type(" + word(place, sign) + ", " + (place + 1) + ") = BAD\n");
            }
            run(lines.toString(), "type(" + word(place, 32) + ", 8) = 9", "type(" + word(place, 126) + ", 8) = 17",
                place == 0 ? "" : "type(" + word(place, 31) + ", " + place + ") = " + (17 + place), "lodging() = " + (-20 - (9 + 7 - place)));
        }
    }

    @Says(promise = 9, value = "FULL: 100.")
    static void theTapeHasRoomFor100Bytes() {
        String ninetySix = repeat(12, "type(0x2020202020202020, 8)\n");
        run(ninetySix, "type(0x2020202020, 5) = FULL", "type(0x2020202020202020, 8) = FULL", "type(0x20202020, 4) = 100", "type(0x20, 1) = FULL",
            "type(0x2020202020202020, 8) = FULL", "lodging() = -120", "type(0x20, 1) = 1  # it is empty then");
        run(ninetySix, "type(0x202020, 3) = 99", "type(0x2020, 2) = FULL", "type(0x20, 1) = 100", "type(0x20, 1) = FULL");
        run(ninetySix, "type(0x70312C7031, 5) = FULL  # no byte of it comes", "type(0x7031, 2) = 98", "lodging() = 1");
    }

    // ---- promise 10

    @Says(promise = 10, value = "THE TAPE, which is empty then (by a FAULT, too), is a LODGING: how many LODGERS.")
    static void theTapeIsEmptyThen() {
        run("type(0x7031, 2) = 2", "lodging() = 1", "type(0x7032, 2) = 2", "lodging() = 1", "told(0, 1) = 2", "lodging() = -20", "count(0) = 1");
        run("type(0x70, 1) = 1", "lodging() = -21", "type(0x31, 1) = 1", "lodging() = -20", "type(0x7031, 2) = 2", "lodging() = 1");
        run("lodging() = -20", "lodging() = -20", "type(0x20, 1) = 1", "lodging() = -21");
    }

    @Says(promise = 10, value = "A FAULT (those told stay).")
    static void byAFaultThoseToldStay() {
        run("\"p1w0,s2w13,l3,n4w7\"", "beds(5)", "lasts(3)", "take() = 4", "image()", "\"p1,p2,q\" = -26", "count(0) = 4", "told(*, 0) = 0 1 2 3",
            "told(*, 1) = 1 2 3 4", "told(*, 2) = 1 10 0 128", "count(1) = 5", "count(3) = 1", "lasts(3) = 3");
        run("\"p1,p1,p1,p1,p1,p1,p1,p1\" = -40  # seven were told already", "count(0) = 0");
    }
}
