/** Sentences of the second section and of promises 12 to 18. */
final class RowEdges extends Edges {
    private static final String NOWHERE = "p1w01234567", ONLY_IN_7 = "p1w0123456";

    private RowEdges() { }

    // ---- section 2

    @Says("FIRST: of all GOOD ROWS the first.")
    static void firstIsByTheFirstLodgerFirst() {
        run("\"p1,p1,p1\"", "first(*) = 0 0 0", "beds(2)", "first(*) = 0 0 1", "beds(1)", "first(*) = 0 1 2");
        run("\"p4,p2w234567\"", "beds(1)", "first(*) = 2 0  # 0 and 1 leave no room for the second");
        run("\"p1,p1w67,p1w567\"", "beds(1)", "first(*) = 0 1 2  # though the others have less choice");
        run("\"p2,p2w7,p2w67\"", "beds(1)", "first(*) = 0 2 4");
        run("\"l2,n2\"", "first(*) = 0 2", "\"n2,l2\"", "first(*) = 0 2");
        run(lodgers(7, ONLY_IN_7), "beds(7)", "first(*) = 7 7 7 7 7 7 7 BAD");
    }

    @Says("FIRST: of all GOOD ROWS the first.")
    static void firstIsOfThoseWhoAreThereNow() {
        run("\"p1\"", "beds(1)", "first(0) = 0", "rents(-1) = 0", "lodger(0, 1, 254) = 1", "first(*) = 1 0", "rents(-1) = 1", "leave(1) = 1", "first(0) = 0",
            "rents(-1) = 0", "\"p1w0\"", "first(0) = 1", "image()", "\"p1w01\"", "first(0) = 2", "restore()", "first(0) = 1");
    }

    @Says("WAYS: how many GOOD ROWS there are (9999 at most are counted).")
    static void at9999WaysCountingEnds() {
        // Six who may begin with 5, 5, 5, 5, 4, 4 parts: 10000 rows. In five beds those are not good in which all begin together.
        String together0 = "\"p1w567,p1w123,p1w347,p1w567,p1w4567,p1w4567\"", together01 = "\"p1w567,p1w234,p1w567,p1w567,p1w4567,p1w4567\"";
        run(together01, "beds(5)", "ways() = 9998");
        run(together0, "beds(5)", "ways() = 9999");
        run(together0, "beds(6)", "ways() = 9999");
        run(lodgers(7, "p1"), "ways() = 9999", "beds(7)", "ways() = 9999");
    }

    @Says("how many GOOD ROWS there are")
    static void waysOfNobodyOfOneAndNone() {
        run("ways() = 1", "\"p1\"", "ways() = 8", "work(0, 255)", "ways() = 0", "work(0, 127)", "ways() = 1");
        run(lodgers(7, ONLY_IN_7), "ways() = 0", "beds(7)", "ways() = 1");
        run("\"p4,p4,p4\"", "beds(1)", "ways() = 0  # twelve parts of sleep in eight", "leave(0)", "ways() = 8");
        run("\"l1,n1\"", "ways() = 56", "\"n1,n1\"", "ways() = 64", "beds(1)", "ways() = 56");
    }

    @Says("FEWEST: the least number of BEDS (1 .. 7) by which there is a GOOD ROW.")
    static void fewestFromOneToSeven() {
        for (int count = 1; count <= 7; count++) {
            run(lodgers(count, ONLY_IN_7), "fewest() = " + count, "beds(1)", "fewest() = " + count, "beds(7)", "fewest() = " + count);
        }
        run("fewest() = 1", lodgers(7, "p4"), "fewest() = 4", "\"p4,n4\"", "fewest() = 1", "\"s4,s4\"", "fewest() = 2");
    }

    @Says("THE ROW is a told one (at first, and as LODGERS come or go, there is none).")
    static void asLodgersComeOrGoThereIsNoRow() {
        run("count(3) = 0", "take() = 0", "count(3) = 1", "lodger(0, 1, 0) = 0", "count(3) = 0", "take() = 1", "lodger(0, 1, 0) = 1", "count(3) = 0",
            "told(0, 4) = NONE", "take() = 2", "leave(1) = 1", "count(3) = 0", "take() = 1", "leave(0) = 0", "count(3) = 0");
        run("\"p1,p1\"", "row 3 4 = 1", "beds(1)", "lasts(1)", "work(0, 255)", "count(3) = 1", "told(*, 4) = 3 4");
    }

    @Says("MENDED: of all GOOD ROWS those by which the fewest LODGERS begin otherwise than in THE ROW;")
    static void mendedChangesFromNobodyToSeven() {
        for (int count = 0; count <= 7; count++) {
            StringBuilder row = new StringBuilder("row"), text = new StringBuilder();
            for (int l = 0; l < 7; l++) {
                row.append(" 7");
                text.append(l > 0 ? "," : "").append(l < count ? "p1w7" : "p1");
            }
            run("\"" + text + "\"", "beds(7)", row + (count == 0 ? " = 1" : " = 0"), "mended(-1) = " + count);
        }
        run(lodgers(7, "p1w7"), "row 7 7 7 7 7 7 7 = 0", "mended(-1) = 7", "mended(*) = 0 0 0 0 0 0 1");
        run("\"l1,n1,l1\"", "row 3 3 3 = 0", "mended(-1) = 1", "mended(*) = 3 0 3  # one snorer, not two light ones");
    }

    @Says("of these the first.")
    static void ofThoseMendedTheFirst() {
        run("\"p1,p1\"", "beds(1)", "row 5 5 = 0", "mended(-1) = 1", "mended(*) = 0 5");
        run("\"p1,p1\"", "beds(1)", "row 0 0 = 0", "mended(-1) = 1", "mended(*) = 0 1  # ahead of 1 0");
        run("\"p1w7,p1,p1\"", "beds(1)", "row 7 0 1 = 0", "mended(-1) = 1", "mended(*) = 2 0 1");
        run("\"p1,p1,p1\"", "beds(1)", "row 4 4 4 = 0", "mended(-1) = 2", "mended(*) = 0 1 4");
        run("\"p1,p1w67,p1w567\"", "beds(1)", "row 7 7 7 = 0", "mended(-1) = 2", "mended(*) = 7 0 1");
    }

    @Says("RENTS are a number (0 .. 2) for each PART.")
    static void rentsFromNoughtToTwo() {
        for (int part = 0; part < 8; part++) {
            run("\"p1\"", filled(0, 0, 2, 2, 2, 2, 2, 2, 2, 2), "clears(0, 0, 0) = 1", "item(0, 0, " + part + ", 0) = 1", "clears(0, 0, 0) = 1",
                "item(0, 0, " + part + ", 3) = 1", "clears(0, 0, 0) = NOT", "item(0, 0, " + part + ", -1) = 1", "clears(0, 0, 0) = NOT");
        }
        // In one bed each is to go on from where another one can't: each part must cost more than the next.
        run("\"p1w1234567,p1w234567,p1w034567\"", "beds(1)", "rents(-1) = 3", "rents(*) = 2 1 0 0 0 0 0 0 BAD");
        run("\"p1w1234567,p1w234567,p1w034567,p1w014567\"", "beds(1)", "take() = 4", "rents(-1) = NONE  # 3 2 1 0 would do");
    }

    @Says({"By RENTS each LODGER begins where PARTS in which one sleeps cost least together", "whatever others do."})
    static void oneBeginsWherePartsCostLeastTogether() {
        // The first may begin with 3 (3, 4) or 7 (7, 0) alone; the second with 4.
        String two = "\"p2w1256,p1w0123567\"";
        run(two, "beds(1)", filled(0, 0, 0, 0, 0, 0, 1, 0, 0, 0), "clears(0, 0, 0) = 1", filled(0, 0, 0, 0, 0, 1, 0, 0, 0, 0), "clears(0, 0, 0) = 1",
            filled(0, 0, 0, 0, 0, 0, 0, 0, 0, 0), "clears(0, 0, 0) = 0");
        run(two, "beds(1)", filled(0, 0, 1, 0, 0, 0, 1, 0, 0, 0), "clears(0, 0, 0) = 0  # 7 and 0 cost 1 together, as 3 and 4",
            filled(0, 0, 1, 0, 0, 1, 1, 0, 0, 0), "clears(0, 0, 0) = 1", filled(0, 0, 1, 0, 0, 1, 1, 0, 0, 1), "clears(0, 0, 0) = 0");
        // Naps cost, too: 0 and 4, or 1 and 5.
        run("\"s2w2367,p1w123567\"", "beds(1)", filled(0, 0, 2, 1, 0, 0, 0, 0, 0, 0), "clears(0, 0, 0) = 1", "item(0, 0, 5, 1)", "clears(0, 0, 0) = 0",
            "item(0, 0, 4, 1)", "clears(0, 0, 0) = 1");
    }

    /** One part of the day after another is made the only cheap one to begin with; a second lodger shows whether one sleeps in a part. */
    @Says("begins where PARTS in which one sleeps cost least together")
    static void costsOfEachKindAndNeed() {
        for (int kind = 0; kind < 4; kind++) {
            for (int need = 1; need <= 4; need++) {
                for (int begin = 0; begin < 8; begin++) {
                    SixBeds x = new SixBeds();
                    x.beds(1);
                    x.lodger(kind, need, 0);
                    x.lodger(0, 1, 0);
                    x.sheet(0, 0, 8);
                    int sleep = x.sleeps(0, begin);
                    for (int part = 0; part < 8; part++) {
                        x.item(0, 0, part, (sleep >> part & 1) == 1 ? 0 : 2);
                    }
                    for (int part = 0; part < 8; part++) {
                        x.work(1, 255 - (1 << part));
                        String what = "kind " + kind + ", need " + need + ", from " + begin + " on, clears beside one in " + part;
                        due(what, x.clears(0, 0, 0), (sleep >> part & 1) == 1 ? 0 : 1);
                    }
                }
            }
        }
    }

    @Says("(of those with which one MAY begin; of like ones the first),")
    static void ofLikeOnesTheFirstWithWhichOneMayBegin() {
        run("\"p1,p1w1234567\"", "beds(1)", filled(0, 0, 2, 2, 2, 2, 2, 2, 2, 2), "clears(0, 0, 0) = 0  # both begin with 0", "work(0, 1)", "clears(0, 0, 0) = 1");
        run("\"p1,p1w0123456\"", "beds(1)", filled(0, 0, 2, 2, 2, 2, 2, 2, 2, 1), "clears(0, 0, 0) = 0", "item(0, 0, 6, 1)", "clears(0, 0, 0) = 1  # 6 is ahead of 7");
    }

    @Says("They CLEAR, if the ROW that comes of it is GOOD.")
    static void rentsClearIfTheRowIsGood() {
        String none = filled(0, 0, 0, 0, 0, 0, 0, 0, 0, 0);
        run(lodgers(7, "p1"), none, "clears(0, 0, 0) = 0", "beds(7)", "clears(0, 0, 0) = 1", "beds(6)", "leave(0)", "clears(0, 0, 0) = 1");
        run("\"l1,n1\"", none, "clears(0, 0, 0) = 0", "work(1, 1)", "clears(0, 0, 0) = 1");
        run(none, "clears(0, 0, 0) = 1  # nobody's");
    }

    @Says("LEAST RENTS: those that CLEAR of the least sum, of like ones the first as a row of PARTS.")
    static void leastRentsAreTheFirstOfTheLeastSum() {
        run("rents(-1) = 0", "rents(*) = 0 0 0 0 0 0 0 0");
        run("\"p1w1234567,s2w2367\"", "beds(1)", "rents(-1) = 1", "rents(*) = 0 0 0 0 1 0 0 0  # ahead of 1 0 0 ..");
        run("\"p2w1256,p1w0123567\"", "beds(1)", "rents(-1) = 1", "rents(*) = 0 0 0 0 1 0 0 0");
        run("\"l1,n1w2\"", "rents(-1) = 2", "rents(*) = 1 1 0 0 0 0 0 0");
        // From 7 alone nobody must be kept away: who may begin with 6 or 7 begins with 6.
        run("\"p1w012345,p1w0123457\"", "beds(1)", "rents(-1) = 1", "rents(*) = 0 0 0 0 0 0 1 0");
    }

    // ---- promise 12

    @Says(promise = 12, value = "FIRST: the PART of a LODGER.")
    static void firstOfTheFirstAndOfTheLast() {
        run(lodgers(7, "p1"), "first(0) = 0", "first(6) = 1", "beds(7)", "first(6) = 0", "work(6, 127)", "first(6) = 7", "count(3) = 0");
    }

    @Says(promise = 12, value = "BAD;")
    static void firstOfWhoIsNotThereIsBad() {
        run("first(0) = BAD", "\"p1,p1\"", bad("first(%d)", beside(0, 1)), "work(0, 255)", bad("first(%d)", beside(0, 1)));
        run(lodgers(7, "p1"), bad("first(%d)", beside(0, 6)));
    }

    @Says(promise = 12, value = "NONE: there is none.")
    static void firstWhereThereIsNone() {
        run("\"p1," + NOWHERE + "\"", "first(0) = NONE", "first(1) = NONE", "work(1, 127)", "first(*) = 0 7");
        run(lodgers(7, ONLY_IN_7), "first(0) = NONE", "beds(7)", "first(0) = 7", "beds(6)", "first(0) = NONE");
        run("\"l1w0123456,n1w0123456\"", "first(0) = NONE");
    }

    // ---- promise 13

    @Says(promise = 13, value = "WAYS.")
    static void waysAreThoseOfTheBedsThereAre() {
        run("\"p1,p1,p1\"", "ways() = 512", "beds(2)", "ways() = 504", "beds(1)", "ways() = 336", "row 0 0 0 = 0", "ways() = 336", "count(3) = 1");
    }

    // ---- promise 14

    @Says(promise = 14, value = "FEWEST.")
    static void fewestLeavesTheBeds() {
        run(lodgers(7, ONLY_IN_7), "fewest() = 7", "count(1) = 6", "beds(1)", "fewest() = 7", "count(1) = 1");
    }

    @Says(promise = 14, value = "NONE: by none.")
    static void fewestWhereNoBedsWillDo() {
        run("\"" + NOWHERE + "\"", "fewest() = NONE", "beds(7)", "fewest() = NONE", "\"l1w0123456,n1w0123456\"", "fewest() = NONE", "work(1, 0)",
            "fewest() = 1");
    }

    // ---- promise 15

    @Says(promise = 15, value = "THE ROW becomes FIRST: how many LODGERS.")
    static void takenFromNobodyToSeven() {
        run("take() = 0", "count(3) = 1");
        for (int count = 1; count <= 7; count++) {
            run(lodgers(count, "p1"), "beds(7)", "take() = " + count, "told(" + (count - 1) + ", 4) = 0", "count(4) = 1");
        }
        run("\"p1,p1\"", "row 5 6 = 1", "take() = 2", "told(*, 4) = 0 0", "beds(1)", "take() = 2", "told(*, 4) = 0 1");
    }

    @Says(promise = 15, value = "NONE: there is none (THE ROW stays).")
    static void whereNoneIsTakenTheRowStays() {
        run("\"p1," + NOWHERE + "\"", "take() = NONE", "count(3) = 0", "row 3 4 = 0", "take() = NONE", "told(*, 4) = 3 4", "count(3) = 1");
    }

    // ---- promise 16

    @Says(promise = 16, value = "The PART of a LODGER in THE ROW: what it was.")
    static void movedFrom0To7AndBack() {
        run(lodgers(7, "p1"), "beds(7)", "take() = 7", "move(0, 7) = 0", "move(6, 7) = 0", "told(*, 4) = 7 0 0 0 0 0 7", "move(6, 0) = 7",
            "move(6, 0) = 0", "told(*, 4) = 7 0 0 0 0 0 0", "first(0) = 0");
        run("\"p1w7\"", "take()", "move(0, 7) = 0  # where one may not begin, too", "count(4) = 0", "mended(-1) = 1", "move(0, 6) = 7", "count(4) = 1",
            "mended(-1) = 0");
    }

    @Says(promise = 16, value = "BAD;")
    static void movesOutsideAreBad() {
        run("take() = 0", "move(0, 0) = BAD", "\"p1,p1\"", "row 3 4 = 1", bad("move(%d, 0)", beside(0, 1)), bad("move(0, %d)", beside(0, 7)),
            "told(*, 4) = 3 4");
    }

    @Says(promise = 16, value = "NOT: there is no ROW.")
    static void nobodyMovesWithoutARow() {
        run("\"p1\"", "move(0, 0) = NOT", "move(0, 7) = NOT", "count(3) = 0", "take()", "move(0, 7) = 0", "lodger(0, 1, 0)", "move(0, 7) = NOT");
    }

    // ---- promise 17

    @Says(promise = 17, value = "MENDED: how many begin otherwise (-1), the PART of the i-th LODGER.")
    static void mendedOfNobodyOfTheFirstAndTheLast() {
        run("take() = 0", "mended(-1) = 0", "mended(0) = BAD");
        run(lodgers(7, "p1"), "row 7 7 7 7 7 7 7 = 0", "mended(-1) = 1", "mended(0) = 0", "mended(6) = 7", "told(0, 4) = 7", "beds(7)", "mended(-1) = 0",
            "mended(0) = 7");
    }

    @Says(promise = 17, value = "BAD;")
    static void mendedOutsideIsBad() {
        run("mended(0) = BAD", "mended(-2) = BAD", "\"p1,p1\"", bad("mended(%d)", beside(-1, 1)), "take()", bad("mended(%d)", beside(-1, 1)), "work(0, 255)",
            bad("mended(%d)", beside(-1, 1)));
    }

    @Says(promise = 17, value = "NOT: there is no ROW;")
    static void nothingIsMendedWithoutARow() {
        run("mended(-1) = NOT", "\"p1\"", "mended(-1) = NOT", "mended(0) = NOT", "take()", "mended(0) = 0", "leave(0)", "mended(-1) = NOT");
    }

    @Says(promise = 17, value = "NONE: there is no GOOD ROW.")
    static void nothingIsMendedWithoutAGoodRow() {
        run("\"p1," + NOWHERE + "\"", "row 3 4 = 0", "mended(-1) = NONE", "mended(0) = NONE", "mended(1) = NONE", "work(1, 15)", "mended(-1) = 0",
            "mended(*) = 3 4");
    }

    // ---- promise 18

    @Says(promise = 18, value = "LEAST RENTS: the sum (-1), of a PART.")
    static void rentsOfTheFirstAndOfTheLastPart() {
        run("\"p1w1234567,p1w234567\"", "beds(1)", "rents(-1) = 1", "rents(0) = 1", "rents(7) = 0");
        run("\"p1w012345,p1w0123457\"", "rents(-1) = 0", "rents(6) = 0", "beds(1)", "rents(-1) = 1", "rents(6) = 1", "rents(7) = 0");
        // Who may begin with 0 or 7 is to begin with 0, where part 0 is free: no rent. Turned round, 0 must cost.
        run("\"p1w123456,p1w0123456\"", "beds(1)", "rents(-1) = 0", "work(1, 254)", "rents(-1) = 1", "rents(0) = 1");
        // A siesta of 3, 4, 7 or of 5, 6, 1: a rent of 3, 4 or 7 will do, and that of 7 is the first as a row.
        run("\"s3w02,p1w0123456\"", "beds(1)", "rents(-1) = 1", "rents(*) = 0 0 0 0 0 0 0 1");
    }

    @Says(promise = 18, value = "BAD;")
    static void rentsOfNoPartAreBad() {
        run(bad("rents(%d)", beside(-1, 7)), "\"" + NOWHERE + "\"", bad("rents(%d)", beside(-1, 7)));
    }

    @Says(promise = 18, value = "NONE: none CLEAR.")
    static void rentsWhereNoneClear() {
        run("\"p1,p1\"", "beds(1)", "rents(-1) = NONE", "rents(0) = NONE", "rents(7) = NONE", "take() = 2  # though there are GOOD ROWS", "beds(2)",
            "rents(7) = 0");
        run("\"p1," + NOWHERE + "\"", "rents(-1) = NONE", "rents(0) = NONE");
        run("\"l1,n1\"", "rents(-1) = NONE");
    }
}
