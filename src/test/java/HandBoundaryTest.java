/** HANDS, PAGES, LIKES and promises 1 and 6 to 15 at their boundaries. */
public final class HandBoundaryTest extends Boundary {
    /** LEFTS show LOOPS 9 0 3 8 and BARS 1 1 2 9, so do RIGHTS. */
    private static final String STROKES = "vain left 9 1 0;vain left 0 1 1;vain left 3 2 2;vain left 8 9 0;"
        + "vain right 9 1 0;vain right 0 1 1;vain right 3 2 2;vain right 8 9 0;";
    /** PAGES of RIGHTS: 4 shows most, 5 least. */
    private static final String EXTREMES = "plain left 0 0 0;taught left 9 9 2;vain left 5 5 0;trembler left 5 5 0;"
        + "vain right 9 9 2;vain right 0 0 0;";

    public static void main(String[] args) {
        new HandBoundaryTest().runAll();
    }

    // ---- what there is at first

    @Sentence("No HANDS; SHEETS have nothing.")
    void aNewObject() {
        row("rule(#)", 0, (m, what) -> m.rule(what), 0, 0, 0, 0, 0);
        for (int a = -1; a <= 8; a++) {
            int hand = a;
            is("hand", x.hand(a, 0), BAD);
            is("page", x.page(a, 0), BAD);
            is("rather", x.rather(a, 0), BAD);
            is("asked", x.asked(0, a), BAD);
            is("luck", x.luck(0, a, 0), BAD);
            refused("alter", BAD, m -> m.alter(hand, 1, 1));
            refused("run", BAD, m -> m.run(hand, true));
            refused("see", BAD, m -> m.see(hand, 0, 0));
        }
        refused("fold", BAD, m -> m.fold(0, 4, true));
        refused("wed", BAD, m -> m.wed(0, 4));
        for (int k = 0; k < 4; k++) {
            int sheet = k;
            refused("lay on nothing", -11, m -> m.lay(sheet, 0, 0));
            is("read of nothing", x.read(k, 0, 0, 1), 0);
            is("is NULL", x.torn(), 1);
        }
        x = again();
        row("count(#)", 0, (m, what) -> m.count(what), 0, 0, 0, NONE, 0, 0);
        is("fault", x.fault(), 0);
        is("torn", x.torn(), 0);
    }

    @Sentence("======== 1 HANDS: LEFTS 0 to 3, RIGHTS 4 to 7 (4 of each at most, by order)")
    void sidesOfNoneToFour() {
        for (int lefts = 0; lefts <= 4; lefts++) {
            for (int rights = 0; rights <= 4; rights++) {
                fresh(handsOf(lefts, rights));
                is("LEFTS", x.rule(0), lefts);
                is("RIGHTS", x.rule(1), rights);
                for (int a = -1; a <= 8; a++) {
                    boolean there = a >= 0 && a < lefts || a >= 4 && a < 4 + rights;
                    is(lefts + " LEFTS, " + rights + " RIGHTS: " + a, x.hand(a, 1), there ? a + 1 : BAD);
                }
            }
        }
    }

    @Sentence(", each of a KIND (0 plain, 1 taught, 2 vain, 3 trembler), with LOOPS, BARS (0 to 9 each), a LEAN (0 to 2), ")
    void theLeastAndTheMostOfAHand() {
        fresh("plain left 0 0 0;taught left 9 0 1;vain right 0 9 2;trembler right 9 9 0;");
        row("hand(0, #)", 0, (m, what) -> m.hand(0, what), 0, 0, 0, 0);
        row("hand(1, #)", 0, (m, what) -> m.hand(1, what), 1, 9, 0, 1);
        row("hand(4, #)", 0, (m, what) -> m.hand(4, what), 2, 0, 9, 2);
        row("hand(5, #)", 0, (m, what) -> m.hand(5, what), 3, 9, 9, 0);
        x.wed(0, 4);
        x.wed(1, 5);
        x.years(20);
        row("none goes beyond 9: hand(1, #)", 1, (m, what) -> m.hand(1, what), 9, 5);
        row("none goes below 0: hand(0, #)", 1, (m, what) -> m.hand(0, what), 0, 5);
        faulty("plain left 10 0 0;", 3, 11);
        faulty("plain left 0 10 0;", 3, 13);
        faulty("plain left 0 0 3;", 3, 15);
        faulty("quaint left 0 0 0;", 2, 0);
    }

    @Sentence({"a PEN: the HAND that writes its PAGE (at first itself).", "RUN is a PAGE or not (not).",
        "FOLDED are some LEFTS with some RIGHTS (none).", "WED is a LEFT to a RIGHT or not (not).", "YEAR (0 at first)."})
    void whatAHandHasAtFirst() {
        fresh(handsOf(4, 4));
        for (int a = 0; a < 8; a++) {
            is("PEN of " + a, x.hand(a, 4), a);
            is("WED of " + a, x.hand(a, 5), NONE);
            is("FOLDED of " + a, x.hand(a, 6), 0);
        }
        is("RUN", x.rule(2), 0);
        is("WED", x.rule(3), 0);
        is("YEAR", x.rule(4), 0);
        is("two who are WED", x.count(4), 0);
        is("two who are FOLDED", x.count(5), 0);
    }

    @Sentence("Answers: BAD -1 (a number is not as told, there is no such HAND, IMAGE, SHEET), STATE -2 (as told), FULL -3, "
        + "NONE -4 (there is none), the first that fits; what is refused changes nothing (but THE TAPE, as told).")
    void theFirstAnswerThatFits() {
        rich();
        refused("BAD ahead of STATE: wed", BAD, m -> m.wed(0, 6));
        refused("BAD ahead of STATE: part", BAD, m -> m.part(3));
        refused("BAD ahead of STATE: back", BAD, m -> m.back(2));
        refused("BAD ahead of NONE: rather", BAD, m -> m.rather(3, 9));
        refused("BAD ahead of NONE: near", BAD, m -> m.near(2));
        refused("BAD ahead of a FAULT: sheet", BAD, m -> m.sheet(4, 0, -1));
        refused("BAD ahead of a FAULT: lay", BAD, m -> m.lay(4, -1, 0));
        refused("BAD ahead of a FAULT: read", BAD, m -> m.read(3, 0, -1, 21));
        fresh();
        refused("BAD ahead of STATE: drift", BAD, m -> m.drift(1, 0, 0));
        refused("STATE: drift", STATE, m -> m.drift(1, 1, 0));
        fresh(TWO, m -> {
            for (int i = 0; i < 6; i++) {
                m.see(0, 0, 1);
            }
            feedAll(m, " ".repeat(160));
        });
        refused("BAD ahead of FULL: see", BAD, m -> m.see(0, 0, 10));
        refused("FULL: see", FULL, m -> m.see(0, 0, 9));
        refused("BAD ahead of FULL: feed", BAD, m -> m.feed(128));
        refused("FULL: feed", FULL, m -> m.feed(127));
    }

    @Sentence("An object is used for at most 512 calls after it has been made; what later calls answer is free.")
    void the512thCall() {
        fresh(TWO);
        int calls = TWO.length() + 1;
        while (calls < 511) {
            is("run", x.run(0, calls % 2 == 0), calls == TWO.length() + 1 ? 0 : calls % 2);
            calls++;
        }
        is("the 512th call", x.rule(2), 1);
    }

    // ---- promises 6 to 8

    @Sentence("0 LEFTS, 1 RIGHTS, 2 PAGES that are RUN (bits), 3 HANDS who are WED (bits), 4 YEAR. BAD.")
    void whatRuleTells() {
        rich();
        row("rule(#)", 0, (m, what) -> m.rule(what), 3, 2, 3, 17, 3);
        badBeyond("rule(#)", 0, 4, (m, what) -> m.rule(what));
        fresh(handsOf(4, 4));
        for (int a = 0; a < 8; a++) {
            x.run(a, true);
            is("RUN up to " + a, x.rule(2), (2 << a) - 1);
        }
        for (int a = 0; a < 4; a++) {
            x.wed(a, 7 - a);
            is("WED up to " + a, x.rule(3), (2 << a) - 1 | 256 - (128 >> a));
        }
    }

    @Sentence("Of a HAND: 0 KIND, 1 LOOPS, 2 BARS, 3 LEAN, 4 PEN, 5 with whom it is WED (NONE), "
        + "6 with whom it is FOLDED (bits). BAD.")
    void whatHandTells() {
        rich();
        row("hand(0, #)", 0, (m, what) -> m.hand(0, what), 0, 3, 6, 0, 4, 4, 0);
        row("hand(2, #)", 0, (m, what) -> m.hand(2, what), 1, 4, 4, 2, 2, NONE, 32);
        row("hand(5, #)", 0, (m, what) -> m.hand(5, what), 3, 8, 8, 1, 5, NONE, 4);
        badBeyond("hand(0, #)", 0, 6, (m, what) -> m.hand(0, what));
        badFor("hand(#, 4)", (m, a) -> m.hand(a, 4), -1, 3, 6, 7, 8, LEAST, MOST);
        fresh(handsOf(4, 4), m -> {
            for (int b = 4; b < 8; b++) {
                m.fold(0, b, true);
                m.fold(b - 4, 7, true);
            }
        });
        is("FOLDED with all RIGHTS", x.hand(0, 6), 240);
        is("FOLDED with all LEFTS", x.hand(7, 6), 15);
    }

    @Sentence("What the PAGE of a HAND shows: 0 LOOPS, 1 BARS, 2 LEAN. BAD.")
    void whatAPageTells() {
        fresh(TOWN);
        row("page(2, #)", 0, (m, what) -> m.page(2, what), 4, 4, 2);
        badBeyond("page(2, #)", 0, 2, (m, what) -> m.page(2, what));
        badFor("page(#, 0)", (m, a) -> m.page(a, 0), -1, 3, 6, 7, 8, LEAST, MOST);
    }

    @Sentence("A PAGE shows LOOPS, BARS, LEAN of its PEN; one that is RUN and the next one of its side (if there is one) show "
        + "both LOOPS, BARS that are the mean (down) of those of their two PENS, each its PEN's LEAN; "
        + "where that befalls one twice, with the one ahead of it.")
    void theLastOfASideRunsWithNobody() {
        for (int last = 0; last < 4; last++) {
            fresh(handsOf(last + 1, last + 1));
            x.run(last, true);
            x.run(4 + last, true);
            for (int a = 0; a <= last; a++) {
                is(last + " is the last LEFT, LOOPS of " + a, x.page(a, 0), a + 1);
                is(4 + last + " is the last RIGHT, LOOPS of " + (4 + a), x.page(4 + a, 0), a + 5);
            }
        }
        // 3 is ahead of 4, but not of its side
        fresh(STROKES);
        x.run(3, true);
        row("page(3, #)", 0, (m, what) -> m.page(3, what), 8, 9, 0);
        row("page(4, #)", 0, (m, what) -> m.page(4, what), 9, 1, 0);
        x.run(7, true);
        row("page(7, #)", 0, (m, what) -> m.page(7, what), 8, 9, 0);
        row("page(0, #)", 0, (m, what) -> m.page(0, what), 9, 1, 0);
    }

    @Sentence("A PAGE shows LOOPS, BARS, LEAN of its PEN; one that is RUN and the next one of its side (if there is one) show "
        + "both LOOPS, BARS that are the mean (down) of those of their two PENS, each its PEN's LEAN; "
        + "where that befalls one twice, with the one ahead of it.")
    void pagesThatRun() {
        for (int first = 0; first <= 4; first += 4) {
            showsLoops(first, 0, 9, 0, 3, 8);
            showsLoops(first, 1, 4, 4, 3, 8);
            showsLoops(first, 2, 9, 1, 1, 8);
            showsLoops(first, 4, 9, 0, 5, 5);
            showsLoops(first, 8, 9, 0, 3, 8);
            showsLoops(first, 3, 4, 4, 1, 8);
            showsLoops(first, 6, 9, 1, 1, 5);
            showsLoops(first, 5, 4, 4, 5, 5);
            showsLoops(first, 15, 4, 4, 1, 5);
            // BARS 1 1, 1 2, 2 9: none is odd, one half, eleven halves
            row("page(#, 1)", first, (m, a) -> m.page(a, 1), 1, 1, 1, 5);
            row("page(#, 2)", first, (m, a) -> m.page(a, 2), 0, 1, 2, 0);
        }
    }

    private void showsLoops(int first, int run, long... wants) {
        fresh(STROKES);
        for (int i = 0; i < 4; i++) {
            x.run(first + i, (run >> i & 1) == 1);
        }
        row("LOOPS of #, RUN " + run, first, (m, a) -> m.page(a, 0), wants);
        row("LOOPS of #, none RUN", 4 - first, (m, a) -> m.page(a, 0), 9, 0, 3, 8);
    }

    @Sentence("A PAGE shows LOOPS, BARS, LEAN of its PEN; one that is RUN and the next one of its side (if there is one) show "
        + "both LOOPS, BARS that are the mean (down) of those of their two PENS, each its PEN's LEAN; "
        + "where that befalls one twice, with the one ahead of it.")
    void pensOfPagesThatRun() {
        fresh(STROKES);
        x.alter(0, 4, 7);
        row("page(0, #)", 0, (m, what) -> m.page(0, what), 8, 9, 0);
        x.run(0, true);
        // PENS 7 and 1: LOOPS 8 0, BARS 9 1
        row("page(0, #)", 0, (m, what) -> m.page(0, what), 4, 5, 0);
        row("page(1, #)", 0, (m, what) -> m.page(1, what), 4, 5, 1);
        x.alter(1, 4, 0);
        // PENS 7 and 0: a PEN's own PAGE does not matter
        row("page(0, #)", 0, (m, what) -> m.page(0, what), 8, 5, 0);
        row("page(1, #)", 0, (m, what) -> m.page(1, what), 8, 5, 0);
        is("its own LOOPS stay", x.hand(0, 1), 9);
    }

    // ---- promises 9 and 10

    @Sentence("LIKES of a HAND for a PAGE by its KIND: plain 20 less by how much LOOPS are unlike its own, less likewise by "
        + "BARS; taught 3 more than plain, if the LEAN is its own; vain LOOPS and BARS; trembler 20 less what a vain one LIKES.")
    void leastAndMostLikes() {
        fresh(EXTREMES);
        row("likes(#, 4)", 0, (m, a) -> m.likes(a, 4), 2, 23, 18, 2);
        row("likes(#, 5)", 0, (m, a) -> m.likes(a, 5), 20, 2, 0, 20);
        x.alter(5, 3, 2);
        is("taught, the LEAN alone", x.likes(1, 5), 5);
        x.alter(4, 3, 1);
        is("taught, all but the LEAN", x.likes(1, 4), 20);
        is("plain, whatever the LEAN", x.likes(0, 4), 2);
        x.alter(4, 1, 8);
        row("one LOOP less: likes(#, 4)", 0, (m, a) -> m.likes(a, 4), 3, 19, 17, 3);
        x.alter(5, 2, 1);
        row("one BAR more: likes(#, 5)", 0, (m, a) -> m.likes(a, 5), 19, 6, 1, 19);
        x.alter(0, 4, 5);
        is("a RIGHT for a PAGE of another PEN", x.likes(4, 0), 1);
    }

    @Sentence("LIKES of a HAND for the PAGE of one on the other side. BAD (also of its own side).")
    void likesOfTheOtherSideAlone() {
        fresh(TOWN);
        is("the first of both", x.likes(0, 4), 17);
        is("the last of both", x.likes(2, 5), 12);
        is("the other way", x.likes(5, 2), 12);
        badFor("likes(#, 4)", (m, a) -> m.likes(a, 4), -1, 3, 4, 5, 6, 7, 8, LEAST, MOST);
        badFor("likes(0, #)", (m, b) -> m.likes(0, b), -1, 0, 1, 2, 3, 6, 7, 8, LEAST, MOST);
        badFor("likes(4, #)", (m, b) -> m.likes(4, b), -1, 3, 4, 5, 6, 7, 8, LEAST, MOST);
    }

    @Sentence("WOULD RATHER: more LIKES, of as many the lesser HAND; anybody rather than nobody; of those FOLDED with it nobody.")
    void whomOneWouldRatherHave() {
        fresh(handsOf(4, 4), m -> {
            for (int a = 0; a < 8; a++) {
                m.alter(a, 1, 0);
            }
        });
        row("as many LIKES: rather(0, #)", 0, (m, k) -> m.rather(0, k), 4, 5, 6, 7, NONE);
        row("as many LIKES: rather(7, #)", 0, (m, k) -> m.rather(7, k), 0, 1, 2, 3, NONE);
        is("no LIKES, but rather than nobody", x.asked(0, 0), 4);
        x.alter(7, 1, 1);
        row("one LIKES more: rather(0, #)", 0, (m, k) -> m.rather(0, k), 7, 4, 5, 6, NONE);
        x.fold(0, 7, true);
        row("but FOLDED: rather(0, #)", 0, (m, k) -> m.rather(0, k), 4, 5, 6, NONE, NONE);
        row("the other way: rather(7, #)", 0, (m, k) -> m.rather(7, k), 1, 2, 3, NONE, NONE);
        row("not the others: rather(1, #)", 0, (m, k) -> m.rather(1, k), 7, 4, 5, 6, NONE);
        fresh("vain left 0 0 0;vain right 0 0 0;");
        is("no LIKES at all", x.likes(0, 4), 0);
        is("rather than nobody, a LEFT", x.rather(0, 0), 4);
        is("rather than nobody, a RIGHT", x.rather(4, 0), 0);
        is("so they quarrel, as none is WED", x.quarrel(0), 1);
        x.fold(0, 4, true);
        is("FOLDED: nobody", x.rather(0, 0), NONE);
        is("FOLDED: nobody, a RIGHT", x.rather(4, 0), NONE);
        is("FOLDED: no quarrel", x.quarrel(0), 0);
    }

    @Sentence("The k-th (from 0) whom a HAND WOULD RATHER have. BAD: k below 0; NONE: not so many.")
    void theKthFrom0() {
        fresh(TOWN);
        row("rather(4, #)", 0, (m, k) -> m.rather(4, k), 0, 1, 2, NONE, NONE);
        row("rather(1, #)", 0, (m, k) -> m.rather(1, k), 5, 4, NONE, NONE);
        is("k far", x.rather(0, MOST), NONE);
        badFor("rather(0, #)", (m, k) -> m.rather(0, k), -1, -2, LEAST);
        badFor("rather(#, 0)", (m, a) -> m.rather(a, 0), -1, 3, 6, 7, 8, LEAST, MOST);
        badFor("rather(#, 99)", (m, a) -> m.rather(a, 99), -1, 3, 6, 8);
        fresh("vain left 1 1 1;");
        is("nobody on the other side", x.rather(0, 0), NONE);
        is("wrong first", x.rather(0, -1), BAD);
    }

    // ---- promises 11 to 15

    /** What a HAND has for each v within bounds; beyond these it stays. */
    private void altered(int what, int low, int high) {
        fresh(TOWN);
        int was = x.hand(2, what);
        for (int v = low; v <= high; v++) {
            is("alter(2, " + what + ", " + v + ")", x.alter(2, what, v), was);
            is("it is", x.hand(2, what), v);
            was = v;
        }
        rich();
        badBeyond("alter(2, " + what + ", #)", low, high, (m, v) -> m.alter(2, what, v));
    }

    @Sentence("KIND, LOOPS, BARS, LEAN, PEN (what 0 to 4) of a HAND becomes v: what it was. BAD.")
    void whatMayBeAltered() {
        altered(0, 0, 3);
        altered(1, 0, 9);
        altered(2, 0, 9);
        altered(3, 0, 2);
        badBeyond("alter(0, #, 0)", 0, 4, (m, what) -> m.alter(0, what, 0));
        badFor("alter(0, #, 0)", (m, what) -> m.alter(0, what, 0), 6);
        badFor("alter(#, 1, 1)", (m, a) -> m.alter(a, 1, 1), -1, 3, 6, 7, 8, LEAST, MOST);
        // a PEN is a HAND that there is
        badFor("alter(0, 4, #)", (m, v) -> m.alter(0, 4, v), -1, 3, 6, 7, 8, LEAST, MOST);
        x = again();
        row("alter(0, 4, #)", 0, (m, v) -> m.alter(0, 4, v), 4, 0, 1);
        row("alter(0, 4, #)", 4, (m, v) -> m.alter(0, 4, v), 2, 4);
        is("its PEN", x.hand(0, 4), 5);
    }

    @Sentence("The PAGE of a HAND is RUN, or not: whether it was. BAD.")
    void runOfAHandThatThereIs() {
        fresh(TOWN);
        is("0 was", x.run(0, false), 1);
        is("0 was not", x.run(0, false), 0);
        is("2, the last LEFT", x.run(2, true), 0);
        is("2 was", x.run(2, true), 1);
        is("5, the last RIGHT", x.run(5, true), 0);
        is("bits", x.rule(2), 36);
        rich();
        badFor("run(#, true)", (m, a) -> m.run(a, true), -1, 3, 6, 7, 8, 31, 32, 33, LEAST, MOST);
        badFor("run(#, false)", (m, a) -> m.run(a, false), -1, 3, 6, 7, 8, 32, LEAST, MOST);
    }

    @Sentence("A LEFT and a RIGHT are FOLDED, or not: whether they were. BAD.")
    void foldOfALeftAndARight() {
        fresh(TOWN);
        is("2 5 were", x.fold(2, 5, false), 1);
        is("2 5 were not", x.fold(2, 5, false), 0);
        is("0 4, the first, WED", x.fold(0, 4, true), 0);
        is("0 4 were", x.fold(0, 4, true), 1);
        is("0 4 stay WED", x.hand(0, 5), 4);
        is("one FOLDED", x.count(5), 1);
        rich();
        for (boolean is : new boolean[] {true, false}) {
            badFor("fold(#, 5)", (m, a) -> m.fold(a, 5, is), -1, 3, 4, 5, 8, LEAST, MOST);
            badFor("fold(2, #)", (m, b) -> m.fold(2, b, is), -1, 0, 2, 3, 6, 7, 8, LEAST, MOST);
            refused("a RIGHT first", BAD, m -> m.fold(5, 2, is));
        }
    }

    @Sentence("A LEFT and a RIGHT are FOLDED, or not: whether they were. BAD.")
    void allFoldedWithAll() {
        fresh(handsOf(4, 4));
        for (int a = 0; a < 4; a++) {
            for (int b = 4; b < 8; b++) {
                is("two FOLDED", x.count(5), 4 * a + b - 4);
                is("they were not", x.fold(a, b, true), 0);
            }
        }
        is("all FOLDED", x.count(5), 16);
        is("nobody for nobody", x.sum(0), 0);
    }

    @Sentence("A LEFT and a RIGHT are WED: how many are. BAD; STATE: one of them is, they are FOLDED.")
    void weddingsOfThoseWhoMay() {
        rich();
        refused("the LEFT is WED", STATE, m -> m.wed(0, 5));
        refused("the RIGHT is WED", STATE, m -> m.wed(1, 4));
        refused("both are, to each other", STATE, m -> m.wed(0, 4));
        refused("they are FOLDED", STATE, m -> m.wed(2, 5));
        badFor("wed(#, 5)", (m, a) -> m.wed(a, 5), -1, 3, 4, 5, 8, LEAST, MOST);
        badFor("wed(1, #)", (m, b) -> m.wed(1, b), -1, 0, 3, 6, 7, 8, LEAST, MOST);
        refused("a RIGHT first", BAD, m -> m.wed(5, 1));
        refused("WED, and no such RIGHT", BAD, m -> m.wed(0, 6));
        is("1 and 5", x.wed(1, 5), 2);
        is("with whom", x.hand(5, 5), 1);
        fresh(handsOf(4, 4));
        row("wed(#, 7 - #)", 0, (m, a) -> m.wed(a, 7 - a), 1, 2, 3, 4);
        is("all are", x.wed(0, 4), STATE);
        fresh(TOWN);
        x.fold(2, 5, false);
        is("FOLDED no more", x.wed(2, 5), 2);
        x.fold(1, 5, true);
        x.part(5);
        is("FOLDED just now", x.wed(1, 5), STATE);
        is("none but 0 and 4", x.count(4), 1);
    }

    @Sentence("A HAND is WED no more: with whom it was. BAD; STATE: it is not.")
    void partingOfThoseWhoAreWed() {
        rich();
        refused("1 is not", STATE, m -> m.part(1));
        refused("5 is not", STATE, m -> m.part(5));
        badFor("part(#)", (m, a) -> m.part(a), -1, 3, 6, 7, 8, LEAST, MOST);
        is("a LEFT", x.part(0), 4);
        is("not any more", x.part(0), STATE);
        is("nor the other", x.part(4), STATE);
        is("none is WED", x.rule(3), 0);
        is("again", x.wed(0, 4), 1);
        is("a RIGHT", x.part(4), 0);
        is("nor the other", x.part(0), STATE);
        is("none is WED", x.count(4), 0);
    }
}
