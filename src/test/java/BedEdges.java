/** Sentences of the third section about beds and linen, and of promises 19, 20, 23 and 24. */
final class BedEdges extends Edges {
    private BedEdges() { }

    // ---- section 3

    @Says({"IN BED: by THE ROW, PART by PART from 0 on:", "(of the same DAY)"})
    static void whoSleepsOnFrom7To0LiesDownAnew() {
        run("\"p1,p2\"", "row 7 7 = 1", "bed(0, *) = NONE NONE NONE NONE NONE NONE NONE 0", "bed(1, *) = 0 NONE NONE NONE NONE NONE NONE 1");
        run("\"p1,p4\"", "row 7 6 = 1", "bed(1, *) = 0 0 NONE NONE NONE NONE 0 0", "bed(0, 7) = 1", "move(0, 6)", "bed(1, *) = 0 0 NONE NONE NONE NONE 1 1");
    }

    @Says("who slept in the PART ahead (of the same DAY) and sleeps on keeps that BED;")
    static void whoSleepsOnKeepsTheBed() {
        run("\"p1,p2,p1\"", "row 0 0 1 = 1", "bed(1, *) = 1 1 NONE NONE NONE NONE NONE NONE", "bed(2, 1) = 0");
        run("\"p1,p3\"", "row 1 0 = 1", "bed(1, *) = 0 0 0 NONE NONE NONE NONE NONE", "bed(0, 1) = 1");
        run("\"p1,p4\"", "row 4 4 = 1", "bed(1, *) = NONE NONE NONE NONE 1 1 1 1");
        run("\"s3,p4\"", "row 0 2 = 1", "bed(0, *) = 0 0 NONE NONE 1 NONE NONE NONE", "bed(1, *) = NONE NONE 0 0 0 0 NONE NONE");
    }

    @Says("then all others who sleep lie down, by numbers, each in the BED of the least number that is free.")
    static void theOthersLieDownByNumbers() {
        run("\"p2,p1,p2,p1,p1\"", "row 0 0 0 1 1 = 1", "bed(*, 0) = 0 1 2 NONE NONE", "bed(*, 1) = 0 NONE 2 1 3");
        run(lodgers(7, "p1"), "beds(7)", "row 7 7 7 7 7 7 7 = 1", "bed(*, 7) = 0 1 2 3 4 5 6");
        run("\"p1,p1,p1,p1,p1,p1,p2\"", "beds(7)", "row 7 7 7 7 7 7 6 = 1", "bed(*, 7) = 1 2 3 4 5 6 0");
        run(lodgers(7, "p1"), "beds(1)", "row 7 6 5 4 3 2 1 = 1", "bed(0, 7) = 0", "bed(3, 4) = 0", "bed(6, 1) = 0");
    }

    @Says("LINEN: how often in a DAY one lies down in a BED in which somebody else lay last (in that DAY).")
    static void linenOfADay() {
        run("\"p1\"", "take()", "linen() = 0", "\"s2\"", "row 0 = 1", "linen() = 0  # one's own");
        run("\"s2,p1\"", "row 0 2 = 1", "linen() = 2", "row 0 0 = 1", "linen() = 0");
        run("\"p4,p4\"", "beds(1)", "row 0 4 = 1", "linen() = 1  # not of the day ahead", "row 4 0 = 1", "linen() = 1");
        run("\"p2,p1\"", "beds(1)", "row 7 1 = 1", "linen() = 2");
    }

    @Says("LINEN: how often in a DAY")
    static void theMostLinenOfADay() {
        run(lodgers(7, "p1"), "beds(1)", "row 0 1 2 3 4 5 6 = 1", "linen() = 6", "row 7 6 5 4 3 2 1 = 1", "linen() = 6");
        run("\"s2,p1,p1,p1,p1,p1,p1\"", "beds(1)", "row 0 1 2 3 5 6 7 = 1", "linen() = 7");
        run(lodgers(7, "p1"), "beds(7)", "row 0 0 0 0 0 0 0 = 1", "linen() = 0");
    }

    // ---- promise 19

    @Says(promise = 19, value = "IN BED: the BED in which a LODGER lies in a PART.")
    static void bedsOfTheFirstAndTheLastInTheFirstAndTheLastPart() {
        run("\"p1,p1,p1,p1,p1,p1,p2\"", "row 0 0 0 0 0 7 7 = 1", "bed(0, 0) = 0", "bed(6, 0) = 5", "bed(5, 7) = 0", "bed(6, 7) = 1", "told(6, 4) = 7");
        run("\"p1,p1\"", "row 3 3 = 1", "bed(1, 3) = 1", "row 3 4 = 1", "move(1, 5)", "bed(1, 5) = 0", "bed(1, 3) = NONE");
        run("\"p1,p1\"", "row 3 3 = 1", "bed(1, 3) = 1", "move(0, 2)", "bed(1, 3) = 0", "move(1, 2)", "bed(1, 2) = 1", "image()", "move(0, 1)",
            "bed(1, 2) = 0", "restore()", "bed(1, 2) = 1");
    }

    @Says(promise = 19, value = "BAD;")
    static void bedsOfNobodyAndOfNoPartAreBad() {
        run("bed(0, 0) = BAD", "take()", "bed(0, 0) = BAD", "\"p1,p1\"", bad("bed(%d, 0)", beside(0, 1)), bad("bed(0, %d)", beside(0, 7)), "take()",
            bad("bed(%d, 0)", beside(0, 1)), bad("bed(0, %d)", beside(0, 7)));
    }

    @Says(promise = 19, value = "NOT: there is no ROW, it is not GOOD;")
    static void nobodyIsInBedWithoutAGoodRow() {
        run("\"p1,p1\"", "bed(0, 0) = NOT", "beds(1)", "row 3 3 = 0", "bed(0, 3) = NOT", "bed(0, 0) = NOT", "beds(2)", "bed(0, 3) = 0", "bed(1, 3) = 1",
            "work(1, 8)", "bed(0, 3) = NOT", "work(1, 0)", "bed(0, 3) = 0", "leave(1)", "bed(0, 3) = NOT");
    }

    @Says(promise = 19, value = "NONE: one is up.")
    static void whoIsUpLiesInNone() {
        run("\"p1,s2\"", "row 7 3 = 1", "bed(0, *) = NONE NONE NONE NONE NONE NONE NONE 0", "bed(1, *) = NONE NONE NONE 0 NONE NONE NONE 1", "move(0, 0)",
            "bed(0, *) = 0 NONE NONE NONE NONE NONE NONE NONE", "bed(1, *) = NONE NONE NONE 0 NONE NONE NONE 0");
    }

    // ---- promise 20

    @Says(promise = 20, value = "LINEN.")
    static void linenOfNobodyAndAfterAMove() {
        run("take() = 0", "linen() = 0");
        run("\"p1,p1\"", "row 0 0 = 1", "linen() = 0", "move(1, 7)", "linen() = 1", "linen() = 1", "move(1, 0)", "linen() = 0");
    }

    @Says(promise = 20, value = "NOT: there is no ROW, it is not GOOD.")
    static void noLinenWithoutAGoodRow() {
        run("linen() = NOT", "\"p1,p1\"", "linen() = NOT", "beds(1)", "row 3 3 = 0", "linen() = NOT", "move(0, 0)", "linen() = 1", "work(0, 1)",
            "linen() = NOT", "lodger(0, 1, 0)", "linen() = NOT");
    }

    // ---- promise 23

    @Says(promise = 23, value = "All but SHEETS, THE TAPE is kept as an IMAGE: 1.")
    static void lodgersBedsLastsAndTheRowAreKept() {
        run("\"p1w0,l2\"", "beds(3)", "lasts(2)", "row 4 5 = 1", "image() = 1", "work(0, 2)", "move(0, 7)", "lodger(0, 1, 0)", "beds(5)", "lasts(9)",
            "restore() = 1", "count(*) = 2 3 3 1 1", "told(*, 0) = 0 2", "told(*, 1) = 1 2", "told(*, 2) = 1 0", "told(*, 3) = 254 255",
            "told(*, 4) = 4 5", "first(*) = 1 0", "lasts(2) = 2");
        run("\"s3w1,n4w2,l2\"", "image() = 1", "\"p1,p1,p1\"", "restore() = 1", "told(*, 0) = 1 3 2", "told(*, 1) = 3 4 2", "told(*, 2) = 2 4 0",
            "sleeps(*, 0) = 0b00010011 0b00001111 0b00000011");
        run("image() = 1  # nobody", lodgers(7, "p1"), "image() = 1  # the second in place of the first", "leave(0)", "restore() = 1", "count(0) = 7");
    }

    @Says(promise = 23, value = "All but SHEETS, THE TAPE")
    static void sheetsAndTheTapeAreNotKept() {
        run("\"p1\"", "type(0x7032, 2) = 2", filled(0, 1, 7, 6), "image() = 1", "item(0, 1, 0, 5)", "sheet(1, 0, 3)", "type(0x2C7033, 3) = 5",
            "restore() = 1", "lay(0, 1, 0) = 1", "told(0, 4) = 5", "drop(1) = 3", "lodging() = 2", "told(*, 1) = 2 3");
        run("sheet(0, 0, 3)", "type(0x70, 1) = 1", "image()", "drop(0) = 3", "lodging() = -21", "restore() = 1", "drop(0) = NULL", "lodging() = -20");
    }

    // ---- promise 24

    @Says(promise = 24, value = "All is as it was then: 1.")
    static void restoredAsOftenAsOneLikes() {
        run("\"p1\"", "row 3 = 1", "image()", "restore() = 1", "told(0, 4) = 3", "move(0, 4)", "restore() = 1", "told(0, 4) = 3", "leave(0)", "restore() = 1",
            "told(0, 4) = 3", "work(0, 8)", "restore() = 1", "told(0, 2) = 0", "count(4) = 1", "ways() = 8");
        run("\"p1,p1\"", "image()  # without a ROW", "take()", "restore() = 1", "count(3) = 0", "take() = 2", "image()", "lodger(0, 1, 0)", "restore() = 1",
            "count(3) = 1", "told(*, 4) = 0 0");
        run("image()  # nobody", lodgers(7, "p1"), "restore() = 1", "count(0) = 0", "count(3) = 0", "lodger(0, 1, 0) = 0");
        run("take() = 0", "image()  # nobody, but a ROW", "lodger(0, 1, 0)", "restore() = 1", "count(*) = 0 6 0 1 1");
    }

    @Says(promise = 24, value = "NONE: there is none.")
    static void withoutAnImageNothingIsRestored() {
        run("restore() = NONE", "\"p1,p1\"", "take()", "beds(2)", "restore() = NONE", "count(*) = 2 2 2 1 1", "image()", "restore() = 1");
    }
}
