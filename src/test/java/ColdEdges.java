/** Sentences of the third section about a cold, and of promises 21 and 22. */
final class ColdEdges extends Edges {
    /** One bed, in which 0 lies, then 1. */
    private static final String ONE_BED = "\"p1,p1\"\nbeds(1)\nrow 0 1 = 1\n";

    private ColdEdges() { }

    // ---- section 3

    @Says("A COLD: on DAYS 1, 2 and so on by THE ROW some have it at first (a set).")
    static void fromNobodyToAllHaveItAtFirst() {
        run(ONE_BED, "sick(0, 1) = 0", "sick(0, 30) = 0", "sick(3, 1) = 3", "sick(3, 7) = 3", "sick(3, 8) = 0", "sick(1, 1) = 3");
        run(lodgers(7, "p1"), "beds(7)", "take() = 7", "sick(127, 1) = 127", "sick(64, 7) = 64", "sick(1, 7) = 1");
    }

    @Says("Who lies down (by numbers also in one PART) in a BED in which another one lay last")
    static void byNumbersAlsoInOnePart() {
        // In 0: 0, 1 in beds 0, 1; in 6: 1 in bed 0; in 7: 2 in bed 1. On day 2 in 0 0 lies down where 1 lay ahead of 1, who gets it
        // then from 2: 0 has it on day 3 only.
        run("\"p1,p3,p1\"", "row 0 6 7 = 1", "sick(4, 1) = 4", "sick(4, 2) = 6", "sick(4, 3) = 7");
    }

    @Says("(on this or a DAY ahead; ahead of DAY 1 nobody lay in any)")
    static void onDay1NobodyLayInABedAhead() {
        run(ONE_BED, "sick(1, 1) = 3  # on this day", "sick(2, 1) = 2  # ahead of day 1 nobody", "sick(2, 2) = 3  # on the day ahead");
        run("\"p1,p1,p1\"", "beds(1)", "row 2 1 0 = 1", "sick(1, 1) = 1", "sick(1, 2) = 7", "sick(2, 1) = 3", "sick(4, 1) = 7");
    }

    @Says({"who has it then", "and has not had it yet, has it from then on."})
    static void whoNoLongerHasItGivesItToNobody() {
        run(ONE_BED, "lasts(1)", "sick(2, 1) = 2", "sick(2, 2) = 0  # 1 had it up to day 1", "lasts(2)", "sick(2, 2) = 3", "sick(2, 3) = 1");
        run(ONE_BED, "sick(1, 8) = 2  # 0 lies down where 1, who has it, lay, but had it", "sick(1, 9) = 0");
    }

    @Says("(perhaps since that very PART),")
    static void perhapsSinceThatVeryPart() {
        // In 0: 0, 1 in beds 0, 1; in 6: 2 in bed 0; in 7: 0 in bed 1. On day 2 in 0 it goes from 2 to 0 in bed 0, then from 0 to 1.
        run("\"p2,p1,p2\"", "row 7 0 6 = 1", "sick(4, 1) = 4", "sick(4, 2) = 7");
    }

    @Says({"One has it on the DAY on which one got it and LASTS DAYS behind that (7 at first, 1 .. 9; who had it at first from DAY 0 on), then never again."})
    static void itLastsFromOneToNineDaysBehind() {
        run(ONE_BED, "sick(1, 6) = 3", "sick(1, 7) = 3", "sick(1, 8) = 2", "sick(1, 9) = 0");
        for (int lasts = 1; lasts <= 9; lasts++) {
            run(ONE_BED, "lasts(" + lasts + ") = 7", "sick(1, " + lasts + ") = 3", "sick(1, " + (lasts + 1) + ") = 2", "sick(1, " + (lasts + 2) + ") = 0",
                "sick(1, 30) = 0");
        }
    }

    @Says("SICK: who has it as DAY d ends (1 .. 30).")
    static void sickFromDay1ToDay30() {
        run(ONE_BED, "sick(1, 1) = 3", "sick(1, 30) = 0", bad("sick(1, %d)", beside(1, 30)));
    }

    @Says("BROUGHT: which LODGERS, if that one alone had it at first, would make just a told set SICK as DAY d ends.")
    static void broughtByNobodyByOneByAll() {
        run(ONE_BED, "brought(3, 1) = 1", "brought(2, 1) = 2", "brought(1, 1) = 0", "brought(0, 1) = 0", "brought(3, 2) = 3", "brought(2, 8) = 1",
            "brought(1, 8) = 2", "brought(0, 9) = 1", "brought(1, 9) = 2", "brought(0, 10) = 3", "brought(0, 30) = 3");
        run(lodgers(7, "p1"), "beds(7)", "take() = 7", "brought(127, 1) = 0  # together they would", "brought(64, 1) = 64", "brought(0, 30) = 127");
    }

    // ---- promise 21

    @Says(promise = 21, value = "SICK, of those who had it at first, as DAY d ends.")
    static void sickOfNobodyAndOfSeven() {
        run("take() = 0", "sick(0, 1) = 0", "sick(0, 30) = 0");
        run(lodgers(7, "p1"), "beds(1)", "row 0 1 2 3 4 5 6 = 1", "sick(1, 1) = 127", "sick(64, 1) = 64", "sick(64, 2) = 127", "sick(127, 1) = 127",
            "sick(0, 1) = 0", "sick(1, 8) = 126");
    }

    @Says(promise = 21, value = "BAD;")
    static void setsOfWhoIsNotThereAndDaysOutsideAreBad() {
        run("sick(1, 1) = BAD", "take()", bad("sick(%d, 1)", beside(0, 0)), "\"p1,p1\"", bad("sick(%d, 1)", MIN, -1, 4, 5, 128, MAX),
            bad("sick(0, %d)", beside(1, 30)), "take()", bad("sick(%d, 1)", MIN, -1, 4, 5, 128, MAX), bad("sick(0, %d)", beside(1, 30)));
        run(lodgers(7, "p1"), "take()", bad("sick(%d, 1)", beside(0, 127)));
    }

    @Says(promise = 21, value = "NOT: there is no ROW, it is not GOOD.")
    static void nobodyIsSickWithoutAGoodRow() {
        run("sick(0, 1) = NOT", "\"p1,p1\"", "sick(1, 1) = NOT", "beds(1)", "row 3 3 = 0", "sick(1, 1) = NOT", "sick(0, 30) = NOT", "move(1, 4)",
            "sick(1, 1) = 3", "work(1, 16)", "sick(1, 1) = NOT", "leave(1)", "sick(1, 1) = NOT");
    }

    // ---- promise 22

    @Says(promise = 22, value = "BROUGHT: as a set.")
    static void broughtOfNobodyAndOfSeven() {
        run("take() = 0", "brought(0, 1) = 0", "brought(0, 30) = 0");
        run(lodgers(7, "p1"), "beds(1)", "row 0 1 2 3 4 5 6 = 1", "brought(127, 1) = 1", "brought(127, 2) = 127", "brought(64, 1) = 64",
            "brought(96, 1) = 32", "brought(0, 30) = 127", "brought(1, 1) = 0");
    }

    @Says(promise = 22, value = "BAD;")
    static void broughtSetsAndDaysOutsideAreBad() {
        run("brought(1, 1) = BAD", "take()", bad("brought(%d, 1)", beside(0, 0)), "\"p1,p1\"", bad("brought(%d, 1)", MIN, -1, 4, 5, 128, MAX),
            bad("brought(0, %d)", beside(1, 30)), "take()", bad("brought(%d, 1)", MIN, -1, 4, 5, 128, MAX), bad("brought(0, %d)", beside(1, 30)));
        run(lodgers(7, "p1"), "take()", bad("brought(%d, 1)", beside(0, 127)));
    }

    @Says(promise = 22, value = "NOT: there is no ROW, it is not GOOD.")
    static void nobodyBroughtItWithoutAGoodRow() {
        run("brought(0, 1) = NOT", "\"p1,p1\"", "brought(1, 1) = NOT", "beds(1)", "row 3 3 = 0", "brought(1, 1) = NOT", "brought(0, 30) = NOT", "move(1, 4)",
            "brought(3, 1) = 1", "work(1, 16)", "brought(3, 1) = NOT", "leave(1)", "brought(1, 1) = NOT");
    }
}
