/** Sentences of the first section and of promises 1 to 8 and 11. */
final class LodgerEdges extends Edges {
    private LodgerEdges() { }

    /** So many parts one behind the other, from one on. */
    private static int stretch(int part, int count) {
        int set = 0;
        for (int k = 0; k < count; k++) {
            set |= 1 << (part + k) % 8;
        }
        return set;
    }

    // ---- section 1

    @Says("A DAY has PARTS 0 .. 7; behind 7 comes 0 of the next DAY.")
    static void behind7Comes0() {
        run("""
            "p2,s2"
            sleeps(0, *) = 0b00000011 0b00000110 0b00001100 0b00011000 0b00110000 0b01100000 0b11000000 0b10000001
            sleeps(1, *) = 0b00010001 0b00100010 0b01000100 0b10001000 0b00010001 0b00100010 0b01000100 0b10001000
            sleeps(0, 8) = BAD
            sleeps(0, -1) = BAD
            """);
    }

    @Says("BEDS are 6 at first (1 .. 7).")
    static void sixBedsAtFirst() {
        run(lodgers(7, "p1"), """
            count(1) = 6
            row 0 0 0 0 0 0 1 = 1
            row 0 0 0 0 0 0 0 = 0
            beds(7) = 6
            count(4) = 1
            beds(1) = 7
            count(4) = 0
            """, bad("beds(%d)", beside(1, 7)), "count(1) = 1");
    }

    @Says("LODGERS 0 .. 6, as they come")
    static void lodgersAreNumberedAsTheyCome() {
        run("""
            lodger(3, 4, 1) = 0
            lodger(2, 3, 2) = 1
            lodger(1, 2, 4) = 2
            lodger(0, 1, 8) = 3
            lodger(3, 4, 16) = 4
            lodger(2, 3, 32) = 5
            lodger(1, 2, 64) = 6
            told(*, 0) = 3 2 1 0 3 2 1
            told(*, 1) = 4 3 2 1 4 3 2
            told(*, 2) = 1 2 4 8 16 32 64
            told(7, 0) = BAD
            told(-1, 0) = BAD
            """);
    }

    @Says("have WORK (a set of PARTS), a NEED (1 .. 4 PARTS of sleep), are of a KIND.")
    static void needIsHowManyPartsOneSleeps() {
        for (int kind = 0; kind < 4; kind++) {
            for (int need = 1; need <= 4; need++) {
                SixBeds x = new SixBeds();
                due("lodger", x.lodger(kind, need, 0), 0);
                for (int part = 0; part < 8; part++) {
                    due("parts of sleep of kind " + kind, Integer.bitCount(x.sleeps(0, part)), need);
                }
            }
        }
        run(each("lodger(0, %d, 0)", "BAD", 0, 5), each("lodger(%d, 1, 0)", "BAD", -1, 4), each("lodger(0, 1, %d)", "BAD", -1, 256));
    }

    @Says({"BEGINNING with a PART one sleeps, of all DAYS alike, in:",
        "0 PLAIN: NEED PARTS one behind the other from that one on (behind 7 from 0 on);"})
    static void plainOnesSleepOnBehind7From0On() {
        for (int need = 1; need <= 4; need++) {
            for (int part = 0; part < 8; part++) {
                run("lodger(0, " + need + ", 0) = 0", "sleeps(0, " + part + ") = " + stretch(part, need));
            }
        }
        run("\"p4\"", "sleeps(0, 5) = 0b11100001", "sleeps(0, 7) = 0b10000111", "sleeps(0, 4) = 0b11110000");
    }

    @Says({"below it 1 SIESTA: one PART less likewise", "and, if NEED is above 1, the fourth PART behind that one, too;"})
    static void siestasAreOnePartLessAndTheFourthBehind() {
        for (int need = 2; need <= 4; need++) {
            for (int part = 0; part < 8; part++) {
                int due = stretch(part, need - 1) | stretch(part + 4, 1);
                run("lodger(1, " + need + ", 0) = 0", "sleeps(0, " + part + ") = " + due);
            }
        }
        run("\"s4\"", "sleeps(0, 0) = 0b00010111", "sleeps(0, 3) = 0b10111000", "sleeps(0, 4) = 0b01110001", "sleeps(0, 6) = 0b11000101");
    }

    @Says("(if NEED is 1: in that one alone),")
    static void aSiestaOfOnePartIsThatOneAlone() {
        run("\"s1w4\"", "sleeps(0, *) = 1 2 4 8 16 32 64 128", "told(0, 3) = 0b11101111");
    }

    @Says("2 LIGHT (below PLAIN): as PLAIN, but never in a PART in which a SNORER sleeps;")
    static void lightOnesSleepAsPlainOnesButNotBesideSnorers() {
        run("\"l2,n1,n4\"", "sleeps(0, 0) = 3", "sleeps(0, 7) = 0b10000001", "told(0, 3) = 255");
        run("\"l2,n1\"", """
            row 7 7 = 0
            row 7 0 = 0  # behind 7
            row 7 1 = 1
            row 7 6 = 1
            """);
    }

    @Says("3 SNORER (below LIGHT): as PLAIN (SNORERS do not mind SNORERS).")
    static void snorersSleepAsPlainOnesAndBesideSnorers() {
        run("\"n3\"", "sleeps(0, 0) = 7", "sleeps(0, 6) = 0b11000001");
        run("\"n2,n2,n2\"", "row 7 7 7 = 1", "row 7 0 6 = 1");
    }

    @Says("One MAY begin with a PART, if no PART in which one sleeps then is WORK.")
    static void oneMayBeginWhereNoPartIsWork() {
        run("\"p2w0,p4w7,s2w0,s3w4,s1w0,l3w07,n1\"", """
            told(*, 3) = 0b01111110 0b00001111 0b11101110 0b11100110 0b11111110 0b00011110 0b11111111
            work(6, 255) = 0
            told(6, 3) = 0
            work(6, 127) = 255
            told(6, 3) = 128
            work(6, 254) = 127
            told(6, 3) = 1
            """);
    }

    @Says("A ROW has a PART for each LODGER, with which that one begins (of nobody the empty one, which is GOOD).")
    static void theRowOfNobodyIsEmptyAndGood() {
        run("""
            sheet(0, 0, 0)
            judged(0, 0, 0) = NONE
            ways() = 1
            count(3) = 0
            count(4) = 0
            take() = 0
            count(3) = 1
            count(4) = 1
            film(0, 0, 0) = 0
            told(0, 4) = BAD
            """);
        run(lodgers(7, "p1"), "row 7 6 5 4 3 2 1 = 1", "told(*, 4) = 7 6 5 4 3 2 1 BAD");
    }

    @Says("It is GOOD, if all MAY,")
    static void aRowIsGoodIfAllMay() {
        for (int who = 0; who < 3; who++) {
            run("\"p1,p1,p1\"", "work(" + who + ", 128) = 0", "row 7 7 7 = 0", "move(" + who + ", 6) = 7", "count(4) = 1");
        }
        run("\"p2w0\"", "row 7 = 0", "row 6 = 1", "row 0 = 0", "row 1 = 1");
    }

    @Says("no more than BEDS sleep in any PART,")
    static void asManyAsBedsMaySleepInAPart() {
        for (int beds = 1; beds <= 7; beds++) {
            StringBuilder asMany = new StringBuilder("row"), oneMore = new StringBuilder("row");
            for (int l = 0; l < 7; l++) {
                asMany.append(l < beds ? " 3" : " " + (l < 3 ? l : l + 1));
                oneMore.append(l <= beds ? " 3" : " " + (l < 3 ? l : l + 1));
            }
            run(lodgers(7, "p1"), "beds(" + beds + ") = 6", asMany + " = 1", beds < 7 ? oneMore + " = 0" : "count(4) = 1");
        }
        for (int part = 0; part < 8; part++) {
            run("\"p1,p1\"", "beds(1)", "row " + part + " " + part + " = 0", "row " + part + " " + (part + 1) % 8 + " = 1");
        }
        run("\"p2,p1,s2\"", "beds(1)", "row 7 0 2 = 0", "row 7 1 2 = 1", "row 7 2 2 = 0", "row 7 6 2 = 0  # the nap");
    }

    @Says("and no LIGHT one sleeps in a PART in which a SNORER does.")
    static void lightOnesAndSnorersAlone() {
        for (int one = 0; one < 4; one++) {
            for (int other = 0; other < 4; other++) {
                boolean clash = one == 2 && other == 3 || one == 3 && other == 2;
                run("lodger(" + one + ", 1, 0)", "lodger(" + other + ", 1, 0)", "row 7 7 = " + (clash ? 0 : 1), "row 7 0 = 1");
            }
        }
        for (int part = 0; part < 8; part++) {
            run("\"l1,p1,n1\"", "row " + part + " 0 " + part + " = 0");
        }
    }

    // ---- promise 1

    @Says(promise = 1, value = "Six beds, nobody.")
    static void aNewObjectHasSixBedsAndNobody() {
        run("""
            count(*) = 0 6 0 0 0
            lasts(7) = 7
            told(0, 0) = BAD
            leave(0) = BAD
            restore() = NONE
            lodging() = -20
            drop(0) = NULL
            drop(3) = NULL
            """);
    }

    // ---- promise 2

    @Says(promise = 2, value = "A LODGER: the number.")
    static void theLeastAndTheGreatestOfEachNumberAreTaken() {
        run("""
            lodger(0, 1, 0) = 0
            lodger(3, 4, 255) = 1
            lodger(1, 2, 1) = 2
            lodger(2, 3, 128) = 3
            told(*, 0) = 0 3 1 2
            told(*, 1) = 1 4 2 3
            told(*, 2) = 0 255 1 128
            """);
    }

    @Says(promise = 2, value = "BAD;")
    static void kindNeedAndWorkOutsideAreBad() {
        run("\"p1\"", "take()", bad("lodger(%d, 1, 0)", beside(0, 3)), bad("lodger(0, %d, 0)", beside(1, 4)), bad("lodger(0, 1, %d)", beside(0, 255)),
            "lodger(0, 1, 1023) = BAD", "count(0) = 1", "count(3) = 1");
    }

    @Says(promise = 2, value = "FULL: 7.")
    static void sevenAreFull() {
        run(lodgers(6, "p1"), "lodger(0, 1, 0) = 6", "take() = 7", "lodger(0, 1, 0) = FULL", "lodger(3, 4, 255) = FULL", "count(0) = 7",
            "count(3) = 1", "leave(3) = 6", "lodger(0, 1, 2) = 6", "lodger(0, 1, 0) = FULL");
    }

    // ---- promise 3

    @Says(promise = 3, value = "A LODGER goes; those behind come one nearer: how many are left.")
    static void thoseBehindComeOneNearer() {
        run("""
            "p1w0,s2w1,l3w2,n4w3,p1w4,s2w5,l3w6"
            leave(6) = 6
            told(*, 2) = 1 2 4 8 16 32
            leave(0) = 5
            told(*, 2) = 2 4 8 16 32 BAD
            told(*, 0) = 1 2 3 0 1
            told(*, 1) = 2 3 4 1 2
            told(*, 3) = 0b11011101 0b11111000 0b11110000 0b11101111 0b11011101
            leave(2) = 4
            told(*, 2) = 2 4 16 32
            sleeps(*, 7) = 0b10001000 0b10000011 0b10000000 0b10001000
            leave(3) = 3
            leave(0) = 2
            leave(1) = 1
            told(*, 2) = 4 BAD
            leave(0) = 0
            leave(0) = BAD
            count(0) = 0
            """);
    }

    @Says(promise = 3, value = "BAD.")
    static void whoIsNotThereCannotLeave() {
        run(bad("leave(%d)", MIN, -1, 0, 1, 6, MAX), "\"p1,p1\"", "take()", bad("leave(%d)", beside(0, 1)), "count(0) = 2", "count(3) = 1");
        run(lodgers(7, "p1"), bad("leave(%d)", beside(0, 6)), "count(0) = 7");
    }

    // ---- promise 4

    @Says(promise = 4, value = {"Of a LODGER: 0 KIND, 1 NEED, 2 WORK,", "3 PARTS with which one MAY begin (a set),"})
    static void whatIsToldOfTheFirstAndOfTheLast() {
        run("\"p1,p1,p1,p1,p1,p1,n4w67\"", "told(0, 0) = 0", "told(0, 1) = 1", "told(0, 2) = 0", "told(0, 3) = 255",
            "told(6, 0) = 3", "told(6, 1) = 4", "told(6, 2) = 192", "told(6, 3) = 0b00000111");
        run("\"p4w0246\"", "told(0, 3) = 0");
    }

    @Says(promise = 4, value = "4 the PART in THE ROW (NONE: there is no ROW).")
    static void thePartInTheRowOrNone() {
        run("\"p1,p1\"", "told(0, 4) = NONE", "told(1, 4) = NONE", "row 0 7 = 1", "told(*, 4) = 0 7", "work(1, 128) = 0", "told(1, 4) = 7",
            "leave(0) = 1", "told(0, 4) = NONE");
    }

    @Says(promise = 4, value = "BAD.")
    static void whoIsNotThereAndWhatIsNotToldIsBad() {
        run("told(0, 0) = BAD", "\"p1,p1\"", bad("told(%d, 0)", beside(0, 1)), bad("told(%d, 4)", beside(0, 1)), bad("told(0, %d)", beside(0, 4)));
        run(lodgers(7, "p1"), bad("told(%d, 3)", beside(0, 6)));
    }

    // ---- promise 5

    @Says(promise = 5, value = "WORK of a LODGER: what it was.")
    static void workFromNoPartToAll() {
        run("\"p1,p1w3\"", """
            work(0, 255) = 0
            told(*, 2) = 255 8
            told(*, 3) = 0 0b11110111
            work(0, 0) = 255
            work(1, 8) = 8
            work(1, 128) = 8
            told(*, 2) = 0 128
            told(*, 3) = 255 127
            """);
        run("\"p1\"", "row 0 = 1", "first(0) = 0", "rents(-1) = 0", "ways() = 8", "work(0, 1) = 0", "told(0, 4) = 0  # THE ROW stays", "count(4) = 0",
            "first(0) = 1", "ways() = 7", "work(0, 255) = 1", "first(0) = NONE", "rents(-1) = NONE", "ways() = 0");
    }

    @Says(promise = 5, value = "BAD.")
    static void workOfNobodyOrOutsideIsBad() {
        run("work(0, 0) = BAD", "\"p1w0,p1\"", bad("work(%d, 2)", beside(0, 1)), bad("work(0, %d)", beside(0, 255)), "told(0, 2) = 1");
    }

    // ---- promise 6

    @Says(promise = 6, value = "PARTS in which a LODGER sleeps who begins with one, as a set.")
    static void sleepsOfTheFirstAndTheLastPart() {
        run("\"p1,p1,p1,p1,p1,p1,s4w01234567\"", "sleeps(0, 0) = 1", "sleeps(0, 7) = 128", "sleeps(6, 0) = 0b00010111  # whatever the WORK",
            "sleeps(6, 7) = 0b10001011");
    }

    @Says(promise = 6, value = "BAD.")
    static void sleepsOutsideAreBad() {
        run("sleeps(0, 0) = BAD", "\"p1,p1\"", bad("sleeps(%d, 0)", beside(0, 1)), bad("sleeps(0, %d)", beside(0, 7)));
        run(lodgers(7, "p1"), bad("sleeps(%d, 0)", beside(0, 6)));
    }

    // ---- promise 7

    @Says(promise = 7, value = "BEDS: how many there were.")
    static void bedsFromOneToSeven() {
        run("beds(7) = 6", "beds(1) = 7", "beds(1) = 1", "beds(2) = 1", "beds(3) = 2", "beds(4) = 3", "beds(5) = 4", "beds(6) = 5", "count(1) = 6");
        run("\"p1,p1\"", "take() = 2", "first(1) = 0", "rents(-1) = 0", "beds(1) = 6", "told(*, 4) = 0 0  # THE ROW stays", "first(1) = 1",
            "rents(-1) = NONE");
    }

    @Says(promise = 7, value = "BAD.")
    static void bedsOutsideAreBad() {
        run("beds(5) = 6", bad("beds(%d)", beside(1, 7)), "count(1) = 5", "beds(6) = 5");
    }

    // ---- promise 8

    @Says(promise = 8, value = "LASTS: what it was.")
    static void lastsFromOneToNine() {
        run("lasts(9) = 7", "lasts(1) = 9", "lasts(1) = 1", "lasts(2) = 1", "lasts(8) = 2", "lasts(7) = 8");
        run("\"p1\"", "take()", "lasts(1) = 7", "sick(1, 1) = 1", "sick(1, 2) = 0", "lasts(9) = 1", "sick(1, 9) = 1", "sick(1, 10) = 0", "count(3) = 1");
    }

    @Says(promise = 8, value = "BAD.")
    static void lastsOutsideAreBad() {
        run("lasts(3) = 7", bad("lasts(%d)", beside(1, 9)), "lasts(3) = 3");
    }

    // ---- promise 11

    @Says(promise = 11, value = "How many: 0 LODGERS, 1 BEDS, 2 PARTS of sleep that all need,")
    static void countsOfNobodyAndOfSeven() {
        run("count(0) = 0", "count(1) = 6", "count(2) = 0", lodgers(7, "p4"), "count(0) = 7", "count(2) = 28", "beds(7)", "count(1) = 7");
        run(lodgers(7, "s1"), "count(2) = 7", "leave(0)", "count(2) = 6", "\"s4,l3,n2\"", "count(2) = 9  # naps, too");
    }

    @Says(promise = 11, value = "3 whether there is a ROW (1, 0), 4 whether that is GOOD (1, 0; 0 if there is none).")
    static void whetherThereIsARowAndWhetherItIsGood() {
        run("\"p1,p1\"", "count(3) = 0", "count(4) = 0", "beds(1)", "row 0 0 = 0", "count(3) = 1", "count(4) = 0", "move(1, 1)", "count(3) = 1",
            "count(4) = 1", "leave(1)", "count(3) = 0", "count(4) = 0");
    }

    @Says(promise = 11, value = "BAD.")
    static void countsOfNothingToldAreBad() {
        run(bad("count(%d)", beside(0, 4)));
    }
}
