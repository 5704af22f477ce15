/** IMAGES, SHEETS and promises 34 to 40 at their boundaries. */
public final class SheetBoundaryTest extends Boundary {
    public static void main(String[] args) {
        new SheetBoundaryTest().runAll();
    }

    // ---- promises 34 and 35

    @Sentence("IMAGE k (0, 1) is HANDS (all of them), what is RUN, FOLDED, WED, YEAR: whether there was one (1, 0). BAD.")
    void twoImages() {
        rich();
        badBeyond("keep(#)", 0, 1, (m, k) -> m.keep(k));
        fresh(TOWN);
        is("none of 0", x.keep(0), 0);
        is("one of 0", x.keep(0), 1);
        is("one IMAGE", x.count(1), 1);
        is("none of 1", x.keep(1), 0);
        is("one of 1", x.keep(1), 1);
        is("two IMAGES", x.count(1), 2);
        is("the third is BAD", x.keep(2), BAD);
        fresh();
        is("no HANDS", x.keep(0), 0);
        is("no HANDS, one", x.keep(0), 1);
        is("no HANDS, back", x.back(0), 0);
    }

    @Sentence({"IMAGE k (0, 1) is HANDS (all of them), what is RUN, FOLDED, WED, YEAR: whether there was one (1, 0). BAD.",
        "All is as IMAGE k: YEAR. BAD; STATE: there is none."})
    void allIsAsTheImage() {
        fresh(handsOf(4, 4), m -> {
            changeAll(m, 1);
            m.keep(1);
            changeAll(m, 2);
            m.keep(0);
            changeAll(m, 3);
        });
        allAreChanged(3, 9);
        is("back 1", x.back(1), 3);
        allAreChanged(1, 3);
        is("back 0", x.back(0), 6);
        allAreChanged(2, 6);
        changeAll(x, 1);
        is("an IMAGE stays as it is", x.back(0), 6);
        allAreChanged(2, 6);
        is("the other too", x.back(1), 3);
        allAreChanged(1, 3);
        is("there was one", x.keep(0), 1);
        is("it is the newer", x.back(0), 3);
        allAreChanged(1, 3);
    }

    /** Everything that an IMAGE holds, of the first HAND of a side and of the last; nobody is WED as the YEARS pass. */
    private static void changeAll(HandMarket m, int by) {
        for (int a : new int[] {0, 3, 4, 7}) {
            m.alter(a, 0, by);
            m.alter(a, 1, by + 1);
            m.alter(a, 2, by + 2);
            m.alter(a, 3, by - 1);
            m.alter(a, 4, by);
            m.run(a, by == 2);
            m.part(a);
        }
        m.years(3);
        m.fold(0, 7, by == 1);
        m.fold(3, 4, by == 2);
        m.wed(3, 3 + by);
    }

    private void allAreChanged(int by, int year) {
        for (int a : new int[] {0, 3, 4, 7}) {
            row("by " + by + ": hand(" + a + ", #)", 0, (m, what) -> m.hand(a, what), by, by + 1, by + 2, by - 1, by);
        }
        is("RUN", x.rule(2), by == 2 ? 1 + 8 + 16 + 128 : 0);
        is("FOLDED 0", x.hand(0, 6), by == 1 ? 128 : 0);
        is("FOLDED 3", x.hand(3, 6), by == 2 ? 16 : 0);
        is("WED", x.hand(3, 5), 3 + by);
        is("YEAR", x.rule(4), year);
        is("1 stays", x.hand(1, 1), 2);
    }

    @Sentence("All is as IMAGE k: YEAR. BAD; STATE: there is none.")
    void noSuchImage() {
        rich();
        badBeyond("back(#)", 0, 1, (m, k) -> m.back(k));
        fresh(TOWN, m -> m.years(5));
        refused("no IMAGE 0", STATE, m -> m.back(0));
        refused("no IMAGE 1", STATE, m -> m.back(1));
        refused("no IMAGE 2", BAD, m -> m.back(2));
        fresh(TOWN, m -> {
            m.years(5);
            m.keep(1);
            m.years(5);
        });
        refused("IMAGE 1 is not 0", STATE, m -> m.back(0));
        is("IMAGE 1", x.back(1), 5);
        is("IMAGE 1 again", x.back(1), 5);
        fresh(TOWN, m -> {
            m.keep(0);
            m.years(5);
        });
        refused("IMAGE 0 is not 1", STATE, m -> m.back(1));
        is("IMAGE 0", x.back(0), 0);
    }

    @Sentence("All is as IMAGE k: YEAR. BAD; STATE: there is none.")
    void whatIsNotInAnImageStays() {
        rich();
        is("back", x.back(0), 1);
        is("SEEN", x.count(0), 3);
        is("IMAGES", x.count(1), 2);
        is("bytes on THE TAPE", x.count(2), 16);
        is("CELLS", x.count(3), 3);
        is("fault", x.fault(), 2);
        is("torn", x.torn(), 2);
    }

    // ---- promises 36 and 37

    @Sentence({"SHEETS 0 to 3 are rows of BYTES (lane 0), SHORTS (1), INTS (2) with 0 to 40 CELLS, or nothing (at first).",
        "A SHEET is a new row of CELLS 0: 1. BAD: also n above 40; -10 - 4."})
    void sheetsOfNoneTo40Cells() {
        for (int k = 0; k <= 3; k++) {
            for (int lane = 0; lane <= 2; lane++) {
                for (int n : new int[] {0, 1, 2, 39, 40}) {
                    fresh();
                    is("nothing at first", x.lay(k, 0, 0), -11);
                    is("sheet(" + k + ", " + lane + ", " + n + ")", x.sheet(k, lane, n), 1);
                    is("CELL -1 of " + n, x.lay(k, -1, 0), -12);
                    is("CELL 0 of " + n, x.lay(k, 0, 0), n > 0 ? 1 : -12);
                    is("the last CELL of " + n, x.lay(k, n - 1, 0), n > 0 ? 1 : -12);
                    is("a CELL behind " + n, x.lay(k, n, 0), -12);
                    is("CELLS of SHEET 0", x.count(3), k == 0 ? n : NONE);
                    is("the next SHEET has nothing", x.lay((k + 1) % 4, 0, 0), -11);
                }
            }
        }
    }

    @Sentence("A SHEET is a new row of CELLS 0: 1. BAD: also n above 40; -10 - 4.")
    void sheetsThatAreRefused() {
        rich();
        badBeyond("sheet(#, 1, 9)", 0, 3, (m, k) -> m.sheet(k, 1, 9));
        badBeyond("sheet(1, #, 9)", 0, 2, (m, lane) -> m.sheet(1, lane, 9));
        for (int k = 0; k <= 3; k++) {
            int sheet = k;
            badFor("sheet(" + k + ", 1, #)", (m, n) -> m.sheet(sheet, 1, n), 41, 42, 255, MOST);
            refused("-1 CELLS", -14, m -> m.sheet(sheet, 0, -1));
            refused("far below 0 CELLS", -14, m -> m.sheet(sheet, 2, LEAST));
        }
        refused("-1 CELLS, no such SHEET", BAD, m -> m.sheet(4, 0, -1));
        refused("-1 CELLS, no such SHEET below", BAD, m -> m.sheet(-1, 0, -1));
        refused("-1 CELLS, no such lane", BAD, m -> m.sheet(0, 3, -1));
        refused("-1 CELLS, no such lane below", BAD, m -> m.sheet(0, -1, -1));
    }

    @Sentence("A SHEET is a new row of CELLS 0: 1. BAD: also n above 40; -10 - 4.")
    void aNewRowIs0() {
        fresh(TWO);
        x.sheet(2, 2, 40);
        layAll(x, 2, 4, 4);
        x.lay(2, 39, 99);
        is("laid", x.read(2, 2, 38, 1), -20);
        is("the same anew", x.sheet(2, 2, 40), 1);
        is("its last is 0", x.read(2, 2, 38, 1), 1);
        x.alter(0, 4, 4);
        is("its first is 0", x.read(2, 2, 0, 1), 1);
        is("so 0's PEN is 0", x.hand(0, 4), 0);
        x.lay(2, 1, 4);
        is("of another lane", x.sheet(2, 0, 2), 1);
        is("it is 0", x.read(2, 0, 0, 1), 1);
        is("so 0's PEN is 0", x.hand(0, 4), 0);
        is("the old lane", x.read(2, 2, 0, 1), 0);
        is("is another", x.torn(), 3);
        is("shorter", x.lay(2, 2, 0), -12);
    }

    /** What a CELL holds, as far as it is a HAND: the PEN that 0 has by it, else BAD. */
    private long laid(int lane, int v) {
        fresh(handsOf(4, 4));
        x.sheet(1, lane, 2);
        is("lay of " + v, x.lay(1, 1, v), 1);
        int answer = x.read(1, lane, 0, 1);
        return answer == 1 ? x.hand(0, 4) : answer;
    }

    @Sentence("CELL i of a SHEET becomes v (its lowest bits): 1. BAD: k; -10 less the FAULT: NULL, INDEX.")
    void theLowestBits() {
        int[] bits = {8, 16, 32};
        for (int lane = 0; lane <= 2; lane++) {
            for (int v : new int[] {-1, 8, 127, LEAST, MOST}) {
                is("lane " + lane + " of " + v, laid(lane, v), v == LEAST && lane < 2 ? 0 : -20);
            }
            for (int shift = 3; shift < 32; shift++) {
                long kept = shift < bits[lane] ? -20 : 7;
                is("lane " + lane + ", bit " + shift, laid(lane, 7 | 1 << shift), kept);
            }
            for (int v = 0; v <= 7; v++) {
                is("lane " + lane + " of " + v, laid(lane, v), v);
                is("lane " + lane + ", below 0", laid(lane, v - (lane == 0 ? 256 : 65536)), lane < 2 ? v : -20);
            }
        }
        is("a BYTE of 255 is -1", laid(0, 255), -20);
        is("a BYTE of 256 is 0", laid(0, 256), 0);
        is("a SHORT of 65535 is -1", laid(1, 65535), -20);
        is("a SHORT of 65536 is 0", laid(1, 65536), 0);
    }

    @Sentence("CELL i of a SHEET becomes v (its lowest bits): 1. BAD: k; -10 less the FAULT: NULL, INDEX.")
    void cellsThatThereAreNot() {
        rich();
        badBeyond("lay(#, 0, 5)", 0, 3, (m, k) -> m.lay(k, 0, 5));
        refused("no such SHEET, no such CELL", BAD, m -> m.lay(4, -1, 5));
        int[] cells = {3, 6, 7};
        for (int k = 0; k <= 2; k++) {
            int sheet = k;
            for (int i : new int[] {-1, cells[k], 40, LEAST, MOST}) {
                refused("lay(" + k + ", " + i + ", 5)", -12, m -> m.lay(sheet, i, 5));
            }
        }
        for (int i : new int[] {-1, 0, 40, LEAST, MOST}) {
            refused("nothing: lay(3, " + i + ", 5)", -11, m -> m.lay(3, i, 5));
        }
        is("the first", x.lay(0, 0, 5), 1);
        is("the last", x.lay(0, 2, 5), 1);
        is("the last SHORT", x.lay(1, 5, 5), 1);
        is("the last INT", x.lay(2, 6, 5), 1);
    }

    // ---- promises 38 and 39

    @Sentence("n (0 to 20) times a HAND, its PEN are read of a SHEET taken as of a lane, two CELLS each from CELL f on, one behind "
        + "another: it is its PEN then: how many were.")
    void readUpTo20Times() {
        for (int lane = 0; lane <= 2; lane++) {
            int of = lane;
            fresh(handsOf(4, 4), m -> {
                m.sheet(of, of, 40);
                for (int i = 0; i < 20; i++) {
                    m.lay(of, 2 * i, i % 8);
                    m.lay(of, 2 * i + 1, 7 - i % 8);
                }
            });
            is("none", x.read(of, of, 0, 0), 0);
            is("so PENS stay", x.hand(0, 4), 0);
            is("one", x.read(of, of, 0, 1), 1);
            row("PEN of #", 0, (m, a) -> m.hand(a, 4), 7, 1, 2);
            is("one from the second on", x.read(of, of, 2, 1), 1);
            row("PEN of #", 0, (m, a) -> m.hand(a, 4), 7, 6, 2);
            is("19", x.read(of, of, 0, 19), 19);
            row("PEN of #", 0, (m, a) -> m.hand(a, 4), 7, 6, 5, 4, 3, 2, 1, 0);
            is("20", x.read(of, of, 0, 20), 20);
            is("no FAULT", x.torn(), 0);
            is("21", x.read(of, of, 0, 21), BAD);
            x.alter(2, 4, 2);
            x.alter(3, 4, 3);
            is("the last two CELLS", x.read(of, of, 38, 1), 1);
            row("PEN of #", 2, (m, a) -> m.hand(a, 4), 2, 4);
        }
    }

    @Sentence("n (0 to 20) times a HAND, its PEN are read of a SHEET taken as of a lane, two CELLS each from CELL f on, one behind "
        + "another: it is its PEN then: how many were.")
    void theLaterOfTwoPensStands() {
        fresh(handsOf(4, 4), m -> {
            m.sheet(0, 0, 6);
            layAll(m, 0, 0, 1, 0, 2, 1, 3);
        });
        is("one", x.read(0, 0, 0, 1), 1);
        is("PEN of 0", x.hand(0, 4), 1);
        is("two of one HAND", x.read(0, 0, 0, 2), 2);
        is("PEN of 0", x.hand(0, 4), 2);
        is("from an odd CELL on", x.read(0, 0, 1, 2), 2);
        row("PEN of #", 0, (m, a) -> m.hand(a, 4), 2, 0, 1);
    }

    @Sentence("BAD: k, lane, n; -20 less i: the i-th, whole, is BAD: then none was; the first met.")
    void readsThatAreRefused() {
        rich();
        badBeyond("read(#, 1, 0, 1)", 0, 3, (m, k) -> m.read(k, 1, 0, 1));
        badBeyond("read(1, #, 0, 1)", 0, 2, (m, lane) -> m.read(1, lane, 0, 1));
        badBeyond("read(1, 1, 0, #)", 0, 20, (m, n) -> m.read(1, 1, 0, n));
        refused("no such n, whatever the SHEET", BAD, m -> m.read(3, 1, 0, 21));
        refused("no such lane, whatever the SHEET", BAD, m -> m.read(3, 3, -1, 1));
    }

    @Sentence("BAD: k, lane, n; -20 less i: the i-th, whole, is BAD: then none was; the first met.")
    void theIthIsBad() {
        for (int i = 0; i < 20; i++) {
            for (int wrong : new int[] {-1, 3, 6, 7, 8}) {
                for (int half = 0; half <= 1; half++) {
                    int at = 2 * i + half;
                    fresh(TOWN);
                    x.sheet(3, 0, 40);
                    layAll(x, 3, 1, 4, 2, 5);
                    x.lay(3, at, wrong);
                    is("CELL " + at + " is " + wrong, x.read(3, 0, 0, 20), -20 - i);
                    row("PEN of #", 0, (m, a) -> m.hand(a, 4), 4, 1, 2);
                    is("those ahead of it", x.read(3, 0, 0, i), i);
                }
            }
        }
        rich();
        x.lay(2, 3, 0);
        is("the second is BAD", x.read(2, 2, 0, 3), -21);
        is("the first is whole", x.read(2, 2, 0, 1), 1);
        rich();
        refused("the second is BAD", -21, m -> m.read(2, 2, 0, 3));
        refused("the first is BAD", -20, m -> m.read(2, 2, 1, 1));
        refused("the second is BAD, ahead of an INDEX", -21, m -> m.read(2, 2, 0, 20));
    }

    @Sentence({"What the machine refuses: those that were whole ahead are (its FAULT is asked by torn()).",
        "A FAULT is what the machine finds: 1 NULL (nothing), 2 INDEX, 3 CAST (another lane), 4 SIZE (below 0)."})
    void whatTheMachineRefuses() {
        fresh(handsOf(4, 4), m -> {
            m.sheet(1, 1, 5);
            layAll(m, 1, 0, 5, 1, 6, 2);
        });
        is("two are whole", x.read(1, 1, 0, 2), 2);
        is("no FAULT", x.torn(), 0);
        x.alter(0, 4, 0);
        x.alter(1, 4, 1);
        is("the third is half", x.read(1, 1, 0, 3), 2);
        is("INDEX", x.torn(), 2);
        row("those ahead are: PEN of #", 0, (m, a) -> m.hand(a, 4), 5, 6, 2);
        x.lay(1, 4, 99);
        is("a half is not whole, so not BAD", x.read(1, 1, 0, 20), 2);
        is("INDEX", x.torn(), 2);
        is("as if of BYTES", x.read(1, 0, 0, 2), 0);
        is("CAST", x.torn(), 3);
        is("as if of INTS", x.read(1, 2, 0, 2), 0);
        is("CAST", x.torn(), 3);
        is("of nothing", x.read(0, 1, 0, 2), 0);
        is("NULL", x.torn(), 1);
        is("of no CELLS", x.sheet(0, 0, 0), 1);
        is("of no CELLS", x.read(0, 0, 0, 1), 0);
        is("INDEX", x.torn(), 2);
    }

    @Sentence({"What the machine refuses: those that were whole ahead are (its FAULT is asked by torn()).",
        "A FAULT is what the machine finds: 1 NULL (nothing), 2 INDEX, 3 CAST (another lane), 4 SIZE (below 0)."})
    void whereReadingBegins() {
        fresh(TWO, m -> m.sheet(0, 2, 40));
        int[][] wholeFrom = {{0, 20}, {1, 19}, {2, 19}, {37, 1}, {38, 1}, {39, 0}, {40, 0}, {41, 0}, {-1, 0}, {-2, 0},
            {-40, 0}, {LEAST, 0}, {LEAST + 1, 0}, {MOST, 0}, {MOST - 1, 0}, {MOST - 39, 0}};
        for (int[] from : wholeFrom) {
            is("from " + from[0], x.read(0, 2, from[0], 20), from[1]);
            is("from " + from[0] + ", its FAULT", x.torn(), from[1] == 20 ? 0 : 2);
        }
    }

    @Sentence("The FAULT of the latest read() that came to an end; 0.")
    void theLatestReadsFault() {
        is("none yet", x.torn(), 0);
        fresh(TWO, m -> {
            m.sheet(1, 1, 3);
            layAll(m, 1, 0, 4, 9);
            m.read(1, 1, 0, 2);
        });
        is("INDEX", x.torn(), 2);
        refused("BAD is no end", BAD, m -> m.read(1, 1, 0, 21));
        refused("nor is one whose two are BAD", -20, m -> m.read(1, 1, 1, 1));
        is("lay is no read", x.lay(0, 0, 0), -11);
        is("so INDEX", x.torn(), 2);
        is("sheet is no read", x.sheet(0, 0, -1), -14);
        is("so INDEX", x.torn(), 2);
        is("CAST", x.read(1, 2, 0, 1), 0);
        is("CAST", x.torn(), 3);
        is("whole", x.read(1, 1, 0, 1), 1);
        is("no FAULT", x.torn(), 0);
        is("NULL ahead of INDEX", x.read(2, 0, -1, 1), 0);
        is("NULL", x.torn(), 1);
        is("CAST ahead of INDEX", x.read(1, 2, -1, 1), 0);
        is("CAST", x.torn(), 3);
        is("none was to be read", x.read(1, 1, 0, 0), 0);
        is("no FAULT", x.torn(), 0);
    }

    // ---- promise 40

    @Sentence("How many: 0 SEEN, 1 IMAGES, 2 bytes on THE TAPE, 3 CELLS of SHEET 0 (NONE: nothing), 4 two who are WED, 5 two who "
        + "are FOLDED. BAD.")
    void whatIsCounted() {
        row("count(#)", 0, (m, what) -> m.count(what), 0, 0, 0, NONE, 0, 0);
        badBeyond("count(#)", 0, 5, (m, what) -> m.count(what));
        rich();
        row("count(#)", 0, (m, what) -> m.count(what), 3, 2, 16, 3, 1, 1);
        badBeyond("count(#)", 0, 5, (m, what) -> m.count(what));
        fresh(handsOf(4, 4), m -> {
            for (int a = 0; a < 4; a++) {
                m.wed(a, 4 + a);
                for (int b = 4; b < 8; b++) {
                    m.fold(a, b, true);
                }
            }
            for (int i = 0; i < 6; i++) {
                m.see(0, 0, 0);
            }
            m.keep(0);
            m.keep(1);
            m.sheet(0, 2, 40);
            feedAll(m, " ".repeat(160));
        });
        row("all full: count(#)", 0, (m, what) -> m.count(what), 6, 2, 160, 40, 4, 16);
        x.sheet(0, 2, 0);
        is("no CELLS are not nothing", x.count(3), 0);
        fresh(m -> m.sheet(1, 2, 40));
        is("CELLS of SHEET 1 do not count", x.count(3), NONE);
    }
}
