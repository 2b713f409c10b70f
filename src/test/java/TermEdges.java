/** Sentences of the terms about all calls: what is refused, in which order, and that it changes nothing. */
final class TermEdges extends Edges {
    private TermEdges() { }

    /** A house with a good row, an image of another one, a tape, sheets of all lanes; sheet 3 holds nothing. */
    static final String RICH = """
        "n1,p1"
        beds(2)
        lasts(2)
        take()
        image()
        "p2w0,s3w4,l1w1,n2"
        beds(3)
        lasts(4)
        take()
        move(0, 5) = 1
        type(0x703277, 3) = 3
        type(0x3035, 2) = 5
        """ + filled(0, 0, 1, 2, 3, 4, 5, 6, 7, 0, 1) + filled(1, 1, 0, 1, 2, 0, 1, 2, 0, 1, 2, 0, 1, 2, 0, 1, 2, 9) + filled(2, 2, 7, -1, 5);

    @Says("An object is used for at most 512 calls after it has been made")
    static void theLastOf512CallsIsAnswered() {
        StringBuilder lines = new StringBuilder("lodger(0, 1, 0) = 0\n");
        for (int k = 0; k < 170; k++) {
            int work = 1 - k % 2;
            lines.append("work(0, " + work + ") = " + (k == 0 ? 0 : 1 - work) + "\ntake() = 1\ntold(0, 4) = " + work + "\n");
        }
        runOnce(lines + "mended(-1) = 0");
    }

    @Says("Answers below 0, of several BAD ahead of all others")
    static void badIsAheadOfAllOthers() {
        run(lodgers(7, "p1w01234567"), """
            lodger(4, 1, 0) = BAD  # ahead of FULL
            lodger(0, 5, 0) = BAD
            lodger(0, 1, 256) = BAD
            told(7, 4) = BAD  # ahead of NONE
            told(0, 5) = BAD
            first(7) = BAD
            mended(7) = BAD  # ahead of NOT
            move(0, 8) = BAD
            move(7, 0) = BAD
            rents(8) = BAD  # ahead of NONE
            bed(7, 0) = BAD
            bed(0, 8) = BAD
            sick(128, 1) = BAD
            sick(0, 31) = BAD
            brought(128, 1) = BAD
            brought(0, 31) = BAD
            row 0 0 0 0 0 0 0 = 0
            mended(7) = BAD  # ahead of NONE
            bed(7, 0) = BAD  # ahead of NOT: it is not GOOD
            bed(0, 8) = BAD
            sick(128, 1) = BAD
            brought(0, 31) = BAD
            """);
        run(repeat(12, "type(0x2020202020202020, 8)\n"), "type(0x20202020, 4) = 100",
            "type(0x1F, 1) = BAD", "type(0x20, 0) = BAD", "type(0x20, 9) = BAD");
    }

    @Says("of several BAD ahead of all others")
    static void badIsAheadOfWhatTheMachineFinds() {
        run("\"p1\"", """
            lay(0, 3, -1) = BAD  # ahead of NULL
            judged(0, -1, -1) = BAD
            clears(0, 3, -1) = BAD
            item(0, 3, -1, 0) = BAD
            film(4, 0, 0) = BAD  # ahead of NOT
            film(0, 3, 0) = BAD
            sheet(4, 0, -1) = BAD  # ahead of SIZE
            sheet(0, 3, -1) = BAD
            drop(4) = BAD
            copy(4, 0, 0, 0, 1) = BAD  # ahead of NULL
            copy(0, 0, 4, 0, 1) = BAD
            sheet(1, 1, 1)
            lay(1, 3, 0) = BAD  # ahead of CAST
            judged(1, 3, 9) = BAD  # ahead of INDEX
            clears(1, -1, 9) = BAD
            item(1, 3, 9, 0) = BAD
            copy(1, 9, 4, -1, -1) = BAD
            copy(-1, 9, 1, -1, -1) = BAD
            take()
            film(1, 3, 9) = BAD
            """);
    }

    @Says("then the first that a call names")
    static void ofSeveralOthersTheFirstThatIsNamed() {
        run("\"p1,p1w01234567\"", "sheet(0, 1, 1)", """
            mended(-1) = NOT  # ahead of NONE: no GOOD ROW either
            film(0, 1, 0) = NOT  # ahead of INDEX
            film(0, 0, 0) = NOT  # ahead of CAST
            film(1, 1, 0) = NOT  # ahead of NULL
            row 0 0 = 0
            bed(0, 7) = NOT  # ahead of NONE: 0 is up in 7
            mended(-1) = NONE
            """);
        run("\"p1\"", "sheet(0, 1, 2)", "item(0, 1, 1, 8)", """
            lay(1, 1, 0) = NULL
            lay(0, 1, 1) = NOT
            lay(0, 0, 1) = CAST  # ahead of NOT
            lay(0, 1, 2) = INDEX
            clears(0, 1, 1) = INDEX  # ahead of NOT: 8 is no RENT
            """);
        run("sheet(0, 1, 1)", """
            lay(1, 1, 0) = NULL  # ahead of NOT: there is no LODGER
            lay(0, 2, 0) = CAST
            lay(0, 1, 2) = INDEX
            lay(0, 1, 1) = NOT
            """);
        run("\"p1w01234567\"", "sheet(0, 1, 8)", """
            clears(1, 1, 0) = NULL  # ahead of NOT: one MAY begin nowhere
            clears(0, 2, 0) = CAST
            clears(0, 1, 1) = INDEX
            clears(0, 1, 0) = NOT
            """);
    }

    @Says({"BAD -1 (a number is not as told, there is no such thing), NOT -2 (as told), FULL -3, NONE -4 (as told), "
        + "CAST -12 (of SHEETS another LANE); what the machine finds: NULL -11, INDEX -13, SIZE -14"})
    static void theNumbersOfTheAnswers() {
        int[] have = {SixBeds.BAD, SixBeds.NOT, SixBeds.FULL, SixBeds.NONE, SixBeds.CAST, SixBeds.NULL, SixBeds.INDEX, SixBeds.SIZE};
        int[] want = {-1, -2, -3, -4, -12, -11, -13, -14};
        for (int k = 0; k < have.length; k++) {
            due("constant " + k, have[k], want[k]);
        }
        run("""
            leave(0) = -1
            lodger(4, 1, 0) = -1
            linen() = -2
            restore() = -4
            drop(0) = -11
            sheet(0, 0, -1) = -14
            sheet(0, 0, 1) = 1
            item(0, 1, 0, 0) = -12
            item(0, 0, 1, 0) = -13
            """, lodgers(7, "p1"), "lodger(0, 1, 0) = -3");
    }

    @Says("(NULL, CAST, INDEX, SIZE in this order;")
    static void nullThenCastThenIndex() {
        run("\"p1\"", "take()", "sheet(1, 1, 1)", "sheet(2, 2, 1)", each("lay(%d, 0, 9)", "NULL", 0, 3), each("lay(%d, 0, 9)", "CAST", 1, 2), """
            judged(0, 0, -1) = NULL
            judged(1, 0, -1) = CAST
            judged(1, 1, -1) = INDEX
            clears(0, 0, -1) = NULL
            clears(1, 0, -1) = CAST
            clears(1, 1, -1) = INDEX
            item(0, 0, 1, 0) = NULL
            item(1, 2, 1, 0) = CAST
            item(1, 1, 1, 0) = INDEX
            film(0, 0, 1) = NULL
            film(1, 2, 1) = CAST
            film(1, 1, 1) = INDEX
            copy(0, -1, 1, 0, 1) = NULL
            copy(1, -1, 0, 0, 1) = NULL
            copy(1, -1, 2, 0, 1) = CAST
            copy(1, 0, 2, 0, -1) = CAST
            copy(1, -1, 1, 0, 1) = INDEX
            """);
    }

    @Says("INDEX also where no item is taken, if i, j is below 0, or above how many there are).")
    static void indexAlsoWhereNoItemIsTaken() {
        for (int lane = 0; lane < 3; lane++) {
            for (int n : new int[] {0, 1, 15, 16}) {
                String at = "(0, " + lane + ", %d)";
                run("sheet(0, " + lane + ", " + n + ")", "sheet(1, " + lane + ", 3)", "take() = 0",
                    each("judged" + at, "NONE", 0, n), each("judged" + at, "INDEX", MIN, -1, n + 1, MAX),
                    each("lay" + at, "NOT", 0, n), each("lay" + at, "INDEX", MIN, -1, n + 1, MAX),
                    each("film" + at, "0", 0, n), each("film" + at, "INDEX", MIN, -1, n + 1, MAX),
                    each("copy(0, %d, 1, 3, 0)", "0", 0, n), each("copy(0, %d, 1, 0, 0)", "INDEX", MIN, -1, n + 1, MAX),
                    each("copy(1, 3, 0, %d, 0)", "0", 0, n), each("copy(1, 0, 0, %d, 0)", "INDEX", MIN, -1, n + 1, MAX));
            }
        }
    }

    @Says("What is refused changes nothing, but as told.")
    static void whatIsRefusedChangesNothing() {
        run(RICH, """
            count(4) = 1  # Run looks at each line that is refused whether all is as without it
            lodger(4, 1, 0) = BAD
            lodger(0, 0, 0) = BAD
            lodger(0, 1, 256) = BAD
            leave(4) = BAD
            leave(-1) = BAD
            told(4, 0) = BAD
            told(0, 5) = BAD
            work(4, 1) = BAD
            work(0, 256) = BAD
            sleeps(0, 8) = BAD
            beds(0) = BAD
            beds(8) = BAD
            lasts(0) = BAD
            lasts(10) = BAD
            type(0x70, 9) = BAD
            type(0x1F, 1) = BAD
            type(0x703107, 3) = BAD
            count(5) = BAD
            first(4) = BAD
            move(4, 0) = BAD
            move(0, 8) = BAD
            move(0, -1) = BAD
            mended(4) = BAD
            rents(8) = BAD
            bed(0, 8) = BAD
            bed(0, 0) = NONE
            sick(16, 1) = BAD
            brought(0, 31) = BAD
            """);
        run(RICH, """
            lay(4, 0, 0) = BAD
            lay(3, 0, 0) = NULL
            lay(0, 1, 0) = CAST
            lay(0, 0, 6) = INDEX
            lay(1, 1, 12) = NOT  # the last item alone is not 0 .. 7
            judged(0, 0, 6) = INDEX
            clears(0, 0, 2) = INDEX
            clears(0, 0, 0) = NOT
            sheet(0, 0, 17) = BAD
            sheet(0, 0, -1) = SIZE
            sheet(3, 3, 1) = BAD
            drop(3) = NULL
            drop(4) = BAD
            item(0, 0, 9, 1) = INDEX
            item(0, 1, 0, 2) = CAST
            item(3, 0, 0, 1) = NULL
            film(0, 1, 0) = CAST
            film(0, 0, 6) = INDEX  # three of four would have room
            film(2, 2, 0) = INDEX
            copy(0, 0, 2, 0, 1) = CAST
            copy(0, 0, 3, 0, 1) = NULL
            copy(0, 4, 0, 0, 6) = INDEX  # five would be there
            copy(0, 0, 0, 4, 6) = INDEX
            copy(0, 0, 0, 1, -1) = INDEX
            """);
    }

    @Says("What is refused changes nothing, but as told.")
    static void whatIsFullOrNotThereChangesNothing() {
        run(RICH, "take()", "lodger(0, 1, 0) = 4", "lodger(0, 1, 0) = 5", "lodger(0, 1, 0) = 6",
            "take() = 7", "lodger(0, 1, 0) = FULL", "count(3) = 1");
        run(repeat(12, "type(0x2020202020202020, 8)\n"), "type(0x70312C7031, 5) = FULL", "type(0x7031, 2) = 98", "lodging() = 1");
        run("\"p1,p1\"", "move(0, 1) = NOT", "film(0, 0, 0) = NOT", "linen() = NOT", "restore() = NONE", "count(3) = 0",
            "row 3 4 = 1", "work(1, 255) = 0", "take() = NONE", "told(*, 4) = 3 4", "mended(-1) = NONE", "told(*, 4) = 3 4");
    }

    @Says("Sets are bits.")
    static void setsAreBits() {
        for (int part = 0; part < 8; part++) {
            run("lodger(0, 1, " + (1 << part) + ") = 0", "told(0, 2) = " + (1 << part), "told(0, 3) = " + (255 - (1 << part)),
                "sleeps(0, " + part + ") = " + (1 << part), "row " + part + " = 0");
        }
        for (int lodger = 0; lodger < 7; lodger++) {
            run("beds(7)", lodgers(7, "p1"), "take() = 7", "sick(" + (1 << lodger) + ", 1) = " + (1 << lodger),
                "brought(" + (1 << lodger) + ", 7) = " + (1 << lodger));
        }
    }
}
