/** Sentences about sheets, and promises 25 to 32. In a call's template S stands for the sheet, L for the lane, I for the item. */
final class SheetEdges extends Edges {
    private static final int MOST_ITEMS = 16;
    private static final String NOWHERE = "\"p1w01234567\"";

    private SheetEdges() { }

    private static String at(String call, long sheet, long lane, long i) {
        return call.replace("S", String.valueOf(sheet)).replace("L", String.valueOf(lane)).replace("I", String.valueOf(i));
    }

    /** Sheets outside 0 .. 3 and lanes outside 0 .. 2, both where a sheet is missing and where it is not. */
    private static void badSheetsAndLanes(String ahead, String call) {
        for (String sheets : new String[] {"", "sheet(0, 0, 16)\nsheet(3, 2, 16)\n"}) {
            StringBuilder lines = new StringBuilder(ahead).append('\n').append(sheets);
            for (int number : beside(0, 3)) {
                lines.append(at(call, number, 0, 0)).append(" = BAD\n");
            }
            for (int number : beside(0, 2)) {
                lines.append(at(call, 0, number, 0)).append(" = BAD\n").append(at(call, 3, number, 0)).append(" = BAD\n");
            }
            run(lines.toString());
        }
    }

    /** Each sheet is missing at first, and again when it has been dropped, whatever the lane. */
    private static void missing(String ahead, String call) {
        for (int sheet = 0; sheet < 4; sheet++) {
            StringBuilder lines = new StringBuilder(ahead).append('\n');
            for (int lane = 0; lane < 3; lane++) {
                lines.append(at(call, sheet, lane, 0)).append(" = NULL\n");
            }
            lines.append("sheet(" + sheet + ", 1, 16) = 16\ndrop(" + sheet + ") = 16\n");
            run(lines.toString(), at(call, sheet, 1, 0) + " = NULL", at(call, sheet, 1, -1) + " = NULL");
        }
    }

    /** A sheet of each lane is asked for as one of each other lane; one of no items, too. */
    private static void ofAnotherLane(String ahead, String call) {
        for (int lane = 0; lane < 3; lane++) {
            for (int n : new int[] {0, MOST_ITEMS}) {
                run(ahead, "sheet(2, " + lane + ", " + n + ") = " + n, at(call, 2, (lane + 1) % 3, 0) + " = CAST", at(call, 2, (lane + 2) % 3, 0) + " = CAST",
                    at(call, 2, (lane + 1) % 3, -1) + " = CAST", at(call, 2, (lane + 2) % 3, 17) + " = CAST");
            }
        }
    }

    /** On sheets of 0 to 16 items so many are taken: from the last place where they are all there, and from those outside. */
    private static void itemsOutside(String ahead, String call, int taken, String answer) {
        for (int n : new int[] {0, 1, taken - 1, taken, taken + 1, MOST_ITEMS}) {
            for (int lane = 0; lane < 3 && n >= 0; lane++) {
                StringBuilder lines = new StringBuilder(ahead).append("\nsheet(1, " + lane + ", " + n + ")\n");
                for (int i : new int[] {MIN, MIN + 1, -1, Math.max(0, n - taken + 1), n, n + 1, 17, MAX - 7, MAX}) {
                    lines.append(at(call, 1, lane, i)).append(" = INDEX\n");
                }
                if (n >= taken) {
                    lines.append(at(call, 1, lane, 0)).append(" = " + answer + "\n").append(at(call, 1, lane, n - taken)).append(" = " + answer + "\n");
                }
                run(lines.toString());
            }
        }
    }

    // ---- 4 sheets

    @Says("sheets 0 .. 3: nothing (at first), or a row of a LANE:")
    static void fourSheetsThatHoldNothingAtFirst() {
        run(each("drop(%d)", "NULL", 0, 1, 2, 3), bad("drop(%d)", beside(0, 3)), "sheet(0, 0, 1) = 1", "sheet(3, 2, 2) = 2", "drop(1) = NULL", "drop(2) = NULL",
            "drop(3) = 2", "drop(0) = 1");
    }

    @Says("0 bytes, 1 ints, 2 longs (all with a sign),")
    static void lanesHaveASign() {
        run(filled(0, 0, 127, 128, 255, 256, 263, -128, -129, -249, 65536, Long.MIN_VALUE, Long.MAX_VALUE),
            reads(0, 0, 127, -128, -1, 0, 7, -128, 127, 7, 0, 0, -1));
        run(filled(1, 1, 2147483647L, 2147483648L, 4294967295L, 4294967296L, 4294967303L, 256, -1, -4294967289L, Long.MIN_VALUE, Long.MAX_VALUE),
            reads(1, 1, MAX, MIN, -1, 0, 7, 256, -1, 7, 0, -1));
        run(filled(2, 2, 0, 7, 8, -1, 256, 4294967296L, 4294967303L, -4294967289L, Long.MIN_VALUE, Long.MAX_VALUE),
            reads(2, 2, 0, 7, 8, -1, 256, 99, 99, -99, -99, 99));
    }

    @Says("of 0 to 16 items.")
    static void from0To16Items() {
        for (int lane = 0; lane < 3; lane++) {
            run("sheet(0, " + lane + ", 0) = 0", "item(0, " + lane + ", 0, 0) = INDEX", "drop(0) = 0", "sheet(0, " + lane + ", 16) = 16",
                "item(0, " + lane + ", 0, 1) = 1", "item(0, " + lane + ", 15, 7) = 1", "item(0, " + lane + ", 16, 1) = INDEX",
                reads(0, lane, 1, 0, 0, 0, 0, 0, 0, 0, 0, 0, 0, 0, 0, 0, 0, 7), "sheet(0, " + lane + ", 17) = BAD", "drop(0) = 16");
        }
    }

    // ---- promise 25

    @Says(promise = 25, value = "A ROW, one item for each LODGER, of a SHEET, taken as a row of a LANE, from item i on, becomes THE ROW: 1 if it is GOOD, else 0.")
    static void aRowIsLaidFromTheFirstAndFromTheLastItems() {
        for (int lane = 0; lane < 3; lane++) {
            String lay = "lay(1, " + lane + ", %d) = ";
            run(lodgers(7, "p1"), filled(1, lane, 0, 1, 2, 3, 4, 5, 6, 7, 0, 7, 7, 7, 7, 7, 7, 7), lay.replace("%d", "0") + 1, "told(*, 4) = 0 1 2 3 4 5 6",
                lay.replace("%d", "8") + 1, "told(*, 4) = 0 7 7 7 7 7 7", lay.replace("%d", "9") + 0, "told(*, 4) = 7 7 7 7 7 7 7", "count(3) = 1", "count(4) = 0");
        }
        run("\"p1w0,p1\"", filled(0, 0, 0, 0, 1), "lay(0, 0, 0) = 0", "told(*, 4) = 0 0", "lay(0, 0, 1) = 0", "told(*, 4) = 0 1", "work(0, 2)", "lay(0, 0, 1) = 1");
    }

    @Says(promise = 25, value = "BAD;")
    static void badLay() {
        badSheetsAndLanes("\"p1\"", "lay(S, L, I)");
    }

    @Says(promise = 25, value = "NULL;")
    static void layOfAMissingSheet() {
        missing("\"p1\"", "lay(S, L, I)");
    }

    @Says(promise = 25, value = "CAST;")
    static void layOfAnotherLane() {
        ofAnotherLane("\"p1\"", "lay(S, L, I)");
    }

    @Says(promise = 25, value = "INDEX;")
    static void layOfItemsOutside() {
        itemsOutside("\"p1\"", "lay(S, L, I)", 1, "1");
        itemsOutside("\"p1,p1,p1\"", "lay(S, L, I)", 3, "1");
        itemsOutside(lodgers(7, "p1"), "lay(S, L, I)", 7, "0");
    }

    @Says(promise = 25, value = "NOT: there is no LODGER, one is not 0 .. 7.")
    static void layOfNobodyAndOfNoParts() {
        run("sheet(0, 0, 2)", "take() = 0", "lay(0, 0, 0) = NOT", "lay(0, 0, 2) = NOT", "lodger(0, 1, 0)", "lay(0, 0, 0) = 1");
        for (long no : new long[] {-1, 8, 255, 256, MIN, MAX}) {
            for (int who = 0; who < 3; who++) {
                run("\"p1,p1,p1\"", "row 3 4 5 = 1", filled(0, 1, 7, 0, 7), "item(0, 1, " + who + ", " + no + ") = 1", "lay(0, 1, 0) = NOT", "told(*, 4) = 3 4 5",
                    "item(0, 1, " + who + ", 7) = 1", "lay(0, 1, 0) = 1");
            }
        }
        run("\"p1\"", filled(0, 2, 1L << 32, 7L << 56, Long.MIN_VALUE, -4294967296L), each("lay(0, 2, %d)", "NOT", 0, 1, 2, 3));
    }

    // ---- promise 26

    @Says(promise = 26, value = "A ROW likewise (nothing is changed by it): the first LODGER by whom, with those ahead, it is not GOOD.")
    static void theFirstByWhomARowIsNotGood() {
        for (int who = 0; who < 7; who++) {
            run(lodgers(7, "p1"), "beds(7)", "work(" + who + ", 8)", filled(0, 0, 3, 3, 3, 3, 3, 3, 3), "judged(0, 0, 0) = " + who, "count(3) = 0",
                who < 6 ? "work(6, 8)" : "", "judged(0, 0, 0) = " + who);
        }
        for (int beds = 1; beds < 7; beds++) {
            run(lodgers(7, "p1"), "beds(" + beds + ")", filled(0, 0, 3, 3, 3, 3, 3, 3, 3), "judged(0, 0, 0) = " + beds);
        }
        run("\"p1,l2,n2,p1\"", "take() = 4", filled(0, 0, 1, 0, 1, 2, 1, 0, 2, 7), "judged(0, 0, 0) = 2", "judged(0, 0, 4) = NONE", "told(*, 4) = 0 0 2 0");
        run("\"n2,p1,l2\"", filled(0, 0, 7, 0, 0), "judged(0, 0, 0) = 2  # behind 7");
    }

    @Says(promise = 26, value = "BAD;")
    static void badJudged() {
        badSheetsAndLanes("\"p1\"", "judged(S, L, I)");
        badSheetsAndLanes("", "judged(S, L, I)");
    }

    @Says(promise = 26, value = "NULL;")
    static void judgedOfAMissingSheet() {
        missing("\"p1\"", "judged(S, L, I)");
        missing("", "judged(S, L, I)");
    }

    @Says(promise = 26, value = "CAST;")
    static void judgedOfAnotherLane() {
        ofAnotherLane("\"p1\"", "judged(S, L, I)");
        ofAnotherLane("", "judged(S, L, I)");
    }

    @Says(promise = 26, value = "INDEX;")
    static void judgedOfItemsOutside() {
        itemsOutside("\"p1\"", "judged(S, L, I)", 1, "NONE");
        itemsOutside("\"p1,p1,p1\"", "judged(S, L, I)", 3, "NONE");
        itemsOutside(lodgers(7, "p1"), "judged(S, L, I)", 7, "6");
        run("\"p1,p1\"", filled(0, 0, 0, 9), "judged(0, 0, 1) = INDEX  # though by 0 it is not GOOD already");
    }

    @Says(promise = 26, value = "NONE: it is GOOD.")
    static void judgedOfAGoodRow() {
        run("sheet(0, 0, 0)", "judged(0, 0, 0) = NONE  # nobody's", "lodger(0, 1, 0)", "judged(0, 0, 0) = INDEX");
        run(lodgers(7, "p1"), filled(0, 0, 7, 7, 7, 7, 7, 7, 0, 7), "judged(0, 0, 0) = NONE", "judged(0, 0, 1) = NONE", "beds(5)", "judged(0, 0, 0) = 5",
            "judged(0, 0, 1) = 6");
    }

    @Says(promise = 26, value = "(An item that is not 0 .. 7 is not GOOD.)")
    static void judgedOfItemsThatAreNoParts() {
        for (long no : new long[] {-1, 8, 255, 256, MIN, MAX}) {
            for (int who = 0; who < 3; who++) {
                run("\"p1,p1,p1\"", filled(0, 1, 7, 0, 7), "item(0, 1, " + who + ", " + no + ") = 1", "judged(0, 1, 0) = " + who);
            }
        }
        run("\"p1,p1\"", filled(0, 2, 0, 1L << 32, 1L << 35), "judged(0, 2, 0) = 1", "judged(0, 2, 1) = 0");
        run("\"p1w0,p1\"", filled(0, 0, 0, 8), "judged(0, 0, 0) = 0  # those ahead come first");
    }

    // ---- promise 27

    @Says(promise = 27, value = "RENTS, 8 items likewise: 1 if they CLEAR, 0 if not.")
    static void rentsFromTheFirstAndFromTheLastEightItems() {
        for (int lane = 0; lane < 3; lane++) {
            run("\"p1w1234567,p1w234567\"", "beds(1)", "take() = 2", filled(3, lane, 2, 1, 0, 0, 0, 0, 0, 0, 0, 0, 0, 0, 0, 0, 0, 0),
                "clears(3, " + lane + ", 0) = 1", "clears(3, " + lane + ", 1) = 1", "clears(3, " + lane + ", 2) = 0", "clears(3, " + lane + ", 8) = 0",
                "item(3, " + lane + ", 8, 1)", "clears(3, " + lane + ", 8) = 1", "clears(3, " + lane + ", 7) = 0  # 1 is the dearer one",
                "told(*, 4) = 0 1");
        }
        run("sheet(0, 0, 8)", "clears(0, 0, 0) = 1  # nobody's");
    }

    @Says(promise = 27, value = "BAD;")
    static void badClears() {
        badSheetsAndLanes("\"p1\"", "clears(S, L, I)");
    }

    @Says(promise = 27, value = "NULL;")
    static void clearsOfAMissingSheet() {
        missing("\"p1\"", "clears(S, L, I)");
        missing("", "clears(S, L, I)");
        missing(NOWHERE, "clears(S, L, I)");
    }

    @Says(promise = 27, value = "CAST;")
    static void clearsOfAnotherLane() {
        ofAnotherLane("\"p1\"", "clears(S, L, I)");
        ofAnotherLane(NOWHERE, "clears(S, L, I)");
    }

    @Says(promise = 27, value = "INDEX;")
    static void clearsOfItemsOutside() {
        itemsOutside("\"p1\"", "clears(S, L, I)", 8, "1");
        itemsOutside("", "clears(S, L, I)", 8, "1");
        itemsOutside(NOWHERE, "clears(S, L, I)", 8, "NOT");
    }

    @Says(promise = 27, value = "NOT: one is not 0 .. 2,")
    static void clearsOfWhatAreNoRents() {
        for (long no : new long[] {-1, 3, 255, 256, MIN, MAX}) {
            for (int part = 0; part < 8; part++) {
                run(filled(0, 1, 2, 1, 0, 2, 1, 0, 2, 1), "item(0, 1, " + part + ", " + no + ") = 1", "clears(0, 1, 0) = NOT  # by nobody, too");
            }
        }
        run("\"p1\"", filled(0, 2, 0, 0, 0, 0, 0, 0, 0, 1L << 32), "clears(0, 2, 0) = NOT", "item(0, 2, 7, 2)", "clears(0, 2, 0) = 1");
    }

    @Says(promise = 27, value = "there is a LODGER who MAY begin nowhere.")
    static void clearsWhereOneMayBeginNowhere() {
        for (int who = 0; who < 3; who++) {
            run("\"p1,p1,p1\"", "sheet(0, 0, 8)", "clears(0, 0, 0) = 1", "work(" + who + ", 255)", "clears(0, 0, 0) = NOT", "work(" + who + ", 127)",
                "clears(0, 0, 0) = 1");
        }
        run("\"p1,p4w04\"", "sheet(0, 0, 8)", "clears(0, 0, 0) = NOT");
    }

    // ---- promise 28

    @Says(promise = 28, value = "A SHEET holds a new row of a LANE: n.")
    static void aNewRowIsOfNoughts() {
        for (int lane = 0; lane < 3; lane++) {
            run("sheet(2, " + lane + ", 16) = 16", "item(2, " + lane + ", 0, 5)", "item(2, " + lane + ", 15, 9)", "sheet(2, " + lane + ", 16) = 16",
                reads(2, lane, 0, 0, 0, 0, 0, 0, 0, 0, 0, 0, 0, 0, 0, 0, 0, 0), "sheet(2, " + (lane + 1) % 3 + ", 1) = 1", reads(2, (lane + 1) % 3, 0),
                "lay(2, " + lane + ", 0) = CAST", "sheet(2, " + lane + ", 0) = 0", reads(2, lane), "drop(2) = 0");
        }
        run("sheet(0, 0, 3)", "item(0, 0, 2, 7)", "drop(0) = 3", "sheet(0, 0, 3) = 3", reads(0, 0, 0, 0, 0));
    }

    @Says(promise = 28, value = "BAD: also n above 16;")
    static void sheetsOfMoreThan16ItemsAreBad() {
        run(filled(0, 0, 5), bad("sheet(0, 0, %d)", 17, 18, 32, MAX), bad("sheet(%d, 0, 1)", beside(0, 3)), bad("sheet(0, %d, 1)", beside(0, 2)),
            bad("sheet(1, 2, %d)", 17, MAX), "drop(1) = NULL", reads(0, 0, 5));
    }

    @Says(promise = 28, value = "SIZE: n below 0.")
    static void sheetsOfLessThanNoItems() {
        run(filled(0, 0, 5), each("sheet(0, 1, %d)", "SIZE", -1, -2, MIN), each("sheet(3, 0, %d)", "SIZE", -1, MIN), "drop(3) = NULL", reads(0, 0, 5));
    }

    // ---- promise 29

    @Says(promise = 29, value = "A SHEET holds nothing: how many items it had.")
    static void droppedFrom0To16Items() {
        for (int n = 0; n <= MOST_ITEMS; n++) {
            run("sheet(3, 1, " + n + ")", "sheet(0, 1, 1)", "drop(3) = " + n, "drop(3) = NULL", "item(3, 1, 0, 0) = NULL", "drop(0) = 1");
        }
    }

    @Says(promise = 29, value = "BAD;")
    static void badDrop() {
        run("sheet(0, 0, 1)", "sheet(3, 0, 1)", bad("drop(%d)", beside(0, 3)), "drop(0) = 1", "drop(3) = 1");
    }

    @Says(promise = 29, value = "NULL.")
    static void dropOfAMissingSheet() {
        run(each("drop(%d)", "NULL", 0, 1, 2, 3), "sheet(1, 0, 0)", "drop(1) = 0", "drop(1) = NULL");
    }

    // ---- promise 30

    @Says(promise = 30, value = "Item i of a SHEET, taken as a row of a LANE, becomes v, its lowest bits: 1.")
    static void aLaneTakesTheLowestBits() {
        run("sheet(0, 0, 16)", "item(0, 0, 0, 0x101) = 1", "item(0, 0, 15, 0x7FFFFFFFFFFFFF07) = 1", "item(0, 0, 7, 0xFFFFFFFFFFFFFF06) = 1", "item(0, 0, 8, 0x85) = 1",
            reads(0, 0, 1, 0, 0, 0, 0, 0, 0, 6, -123, 0, 0, 0, 0, 0, 0, 7));
        run("sheet(0, 1, 3)", "item(0, 1, 0, 0x100000001) = 1", "item(0, 1, 1, 0xFFFFFFFF00000006) = 1", "item(0, 1, 2, 0x101) = 1", reads(0, 1, 1, 6, 257));
        run("sheet(0, 2, 3)", "item(0, 2, 0, 0x100000001) = 1", "item(0, 2, 1, 0x8000000000000000) = 1", "item(0, 2, 2, 3) = 1", reads(0, 2, 99, -1, 3));
    }

    @Says(promise = 30, value = "BAD;")
    static void badItem() {
        badSheetsAndLanes("", "item(S, L, I, 5)");
    }

    @Says(promise = 30, value = "NULL;")
    static void itemOfAMissingSheet() {
        missing("", "item(S, L, I, 5)");
    }

    @Says(promise = 30, value = "CAST;")
    static void itemOfAnotherLane() {
        ofAnotherLane("", "item(S, L, I, 5)");
    }

    @Says(promise = 30, value = "INDEX.")
    static void itemsOutsideAreIndex() {
        itemsOutside("", "item(S, L, I, 5)", 1, "1");
    }

    // ---- promise 31

    @Says(promise = 31, value = "THE ROW comes to a SHEET likewise: how many LODGERS.")
    static void theRowComesToTheFirstAndTheLastItems() {
        for (int lane = 0; lane < 3; lane++) {
            run(lodgers(7, "p1"), "row 1 2 3 4 5 6 7 = 1", "sheet(0, " + lane + ", 16)", "film(0, " + lane + ", 9) = 7", "film(0, " + lane + ", 0) = 7",
                reads(0, lane, 1, 2, 3, 4, 5, 6, 7, 0, 0, 1, 2, 3, 4, 5, 6, 7));
        }
        run("\"p1,p1\"", "beds(1)", "row 6 6 = 0", "sheet(0, 0, 2)", "film(0, 0, 0) = 2  # one that is not GOOD, too", reads(0, 0, 6, 6));
        run("take() = 0", filled(0, 0, 5), "film(0, 0, 0) = 0", "film(0, 0, 1) = 0", reads(0, 0, 5));
    }

    @Says(promise = 31, value = "BAD;")
    static void badFilm() {
        badSheetsAndLanes("\"p1\"\ntake()", "film(S, L, I)");
        badSheetsAndLanes("\"p1\"", "film(S, L, I)");
    }

    @Says(promise = 31, value = "NOT: there is none;")
    static void filmWithoutARow() {
        run("film(0, 0, 0) = NOT", "sheet(0, 0, 1)", "film(0, 0, 0) = NOT", "film(0, 1, 0) = NOT", "film(0, 0, 9) = NOT", "\"p1\"", "film(0, 0, 0) = NOT", "take()",
            "film(0, 0, 0) = 1", "leave(0)", "film(0, 0, 0) = NOT");
    }

    @Says(promise = 31, value = "NULL;")
    static void filmToAMissingSheet() {
        missing("\"p1\"\ntake()", "film(S, L, I)");
        missing("take()", "film(S, L, I)");
    }

    @Says(promise = 31, value = "CAST;")
    static void filmToAnotherLane() {
        ofAnotherLane("\"p1\"\ntake()", "film(S, L, I)");
        ofAnotherLane("take()", "film(S, L, I)");
    }

    @Says(promise = 31, value = "INDEX.")
    static void filmToItemsOutside() {
        itemsOutside("\"p1\"\nrow 5", "film(S, L, I)", 1, "1");
        itemsOutside("\"p1,p1,p1\"\nrow 5 6 7", "film(S, L, I)", 3, "3");
        itemsOutside(lodgers(7, "p1") + "\nrow 1 2 3 4 5 6 7", "film(S, L, I)", 7, "7");
    }

    // ---- promise 32

    @Says(promise = 32, value = "n items of a SHEET from i on come to another one (or the same) from j on, as if all were taken ahead: n.")
    static void copiesToAnotherAndWithinOne() {
        for (int lane = 0; lane < 3; lane++) {
            String two = filled(0, lane, 1, 2, 3, 4, 5) + filled(1, lane, 7, 7, 7, 7);
            run(two, "copy(0, 2, 1, 1, 3) = 3", reads(1, lane, 7, 3, 4, 5), reads(0, lane, 1, 2, 3, 4, 5));
            run(two, "copy(0, 1, 1, 0, 4) = 4", reads(1, lane, 2, 3, 4, 5), "copy(1, 0, 0, 1, 0) = 0", "copy(1, 3, 0, 0, 1) = 1", reads(0, lane, 5, 2, 3, 4, 5));
            run(two, "copy(0, 0, 0, 1, 4) = 4", reads(0, lane, 1, 1, 2, 3, 4));
            run(two, "copy(0, 1, 0, 0, 4) = 4", reads(0, lane, 2, 3, 4, 5, 5));
            run(two, "copy(0, 0, 0, 2, 3) = 3", reads(0, lane, 1, 2, 1, 2, 3));
            run(two, "copy(0, 0, 0, 0, 5) = 5", "copy(0, 5, 0, 5, 0) = 0", "copy(0, 5, 0, 0, 0) = 0", reads(0, lane, 1, 2, 3, 4, 5));
        }
    }

    @Says(promise = 32, value = "n items of a SHEET from i on")
    static void copiesFromNoneToAll16() {
        for (int lane = 0; lane < 3; lane++) {
            String sixteen = filled(0, lane, 0, 1, 2, 3, 4, 5, 6, 7, 7, 6, 5, 4, 3, 2, 1, 0);
            run(sixteen, "sheet(3, " + lane + ", 16)", "copy(0, 0, 3, 0, 0) = 0", "copy(0, 15, 3, 0, 1) = 1", "copy(0, 7, 3, 15, 1) = 1",
                "copy(0, 0, 3, 0, 16) = 16", reads(3, lane, 0, 1, 2, 3, 4, 5, 6, 7, 7, 6, 5, 4, 3, 2, 1, 0));
            run(sixteen, "copy(0, 0, 0, 1, 15) = 15", reads(0, lane, 0, 0, 1, 2, 3, 4, 5, 6, 7, 7, 6, 5, 4, 3, 2, 1));
            run("sheet(0, " + lane + ", 0)", "sheet(1, " + lane + ", 0)", "copy(0, 0, 1, 0, 0) = 0", "copy(0, 0, 0, 0, 0) = 0", "copy(0, 0, 1, 0, 1) = INDEX");
        }
        run(filled(0, 2, 1L << 32, -1, Long.MIN_VALUE), "sheet(1, 2, 3)", "copy(0, 0, 1, 0, 3) = 3", reads(1, 2, 99, -1, -99));
    }

    @Says(promise = 32, value = "BAD;")
    static void badCopies() {
        run("sheet(0, 0, 1)", bad("copy(%d, 0, 0, 0, 1)", beside(0, 3)), bad("copy(0, 0, %d, 0, 1)", beside(0, 3)), bad("copy(%d, 0, %d, 0, 0)", beside(0, 3)),
            bad("copy(%d, -1, 3, -1, -1)", beside(0, 3)));
    }

    @Says(promise = 32, value = "NULL (either);")
    static void copiesFromOrToAMissingSheet() {
        run("copy(0, 0, 3, 0, 0) = NULL", "copy(2, 0, 2, 0, 0) = NULL", "sheet(0, 0, 1)", "copy(0, 0, 3, 0, 1) = NULL", "copy(3, 0, 0, 0, 1) = NULL",
            "copy(0, -1, 3, 0, -1) = NULL", "sheet(3, 0, 1)", "copy(0, 0, 3, 0, 1) = 1", "drop(0)", "copy(0, 0, 3, 0, 1) = NULL", "copy(3, 0, 0, 0, 0) = NULL");
    }

    @Says(promise = 32, value = "CAST: of unlike LANES;")
    static void copiesOfUnlikeLanes() {
        for (int lane = 0; lane < 3; lane++) {
            for (int other = 0; other < 3; other++) {
                String answer = lane == other ? "1" : "CAST", none = lane == other ? "0" : "CAST", outside = lane == other ? "INDEX" : "CAST";
                run(filled(0, lane, 5), "sheet(1, " + other + ", 1)", "copy(0, 0, 1, 0, 1) = " + answer, "copy(0, 0, 1, 0, 0) = " + none,
                    "copy(0, -1, 1, 9, -1) = " + outside, reads(1, other, lane == other ? 5 : 0));
            }
        }
    }

    @Says(promise = 32, value = "INDEX (n below 0, too).")
    static void copiesOfItemsOutside() {
        run(filled(0, 0, 1, 2, 3, 4, 5), filled(1, 0, 7, 7, 7), each("copy(0, 0, 1, 0, %d)", "INDEX", MIN, -1, 4, 5, 6, MAX),
            each("copy(0, %d, 1, 0, 1)", "INDEX", MIN, -1, 5, 6, MAX), each("copy(0, 0, 1, %d, 1)", "INDEX", MIN, -1, 3, 4, MAX),
            each("copy(0, %d, 1, 0, 2)", "INDEX", 4, MAX), each("copy(0, 0, 1, %d, 2)", "INDEX", 2, MAX),
            each("copy(0, %d, 0, %d, %d)", "INDEX", MIN, -1, 3, MAX), each("copy(0, 0, 0, 0, %d)", "INDEX", MIN, -1, 6, 16, 17, MAX), reads(1, 0, 7, 7, 7));
        run(filled(0, 0, 1, 2, 3, 4, 5), "copy(0, 0, 0, 1, 5) = INDEX", "copy(0, 1, 0, 0, 5) = INDEX", "copy(0, 5, 0, 5, 1) = INDEX",
            "copy(0, 5, 0, 5, -1) = INDEX", "copy(0, 2147483643, 0, 0, 5) = INDEX  # their sum is below 0", "copy(0, 0, 0, 2147483643, 5) = INDEX",
            reads(0, 0, 1, 2, 3, 4, 5));
    }
}
