import java.math.BigInteger;

/** YEARS, PENS, what is SEEN, and promises 22 to 26 and 29 to 33 at their boundaries. */
public final class PenBoundaryTest extends Boundary {
    /** Two LEFTS for one RIGHT, who would rather have 1. */
    private static final String RIVALS = "plain left 0 0 0;plain left 5 5 0;plain right 5 5 0;";

    public static void main(String[] args) {
        new PenBoundaryTest().runAll();
    }

    // ---- promises 22 and 23

    @Sentence("A YEAR: of each two who are WED LOOPS come nearer, likewise BARS: are they 2 or more unlike, each 1 nearer; "
        + "1 unlike, the lesser becomes as the greater. YEAR is 1 more.")
    void aYearByHowMuchTheyAreUnlike() {
        for (int lesser = 0; lesser <= 9; lesser++) {
            for (int greater = lesser; greater <= 9; greater++) {
                int gap = greater - lesser;
                int lesserThen = gap >= 1 ? lesser + 1 : lesser;
                int greaterThen = gap >= 2 ? greater - 1 : greater;
                // the LEFT has the lesser LOOPS, the greater BARS
                fresh("vain left " + lesser + " " + greater + " 1;vain right " + greater + " " + lesser + " 2;wed 0 4;");
                is("YEAR", x.years(1), 1);
                row(gap + " unlike: hand(0, #)", 1, (m, what) -> m.hand(0, what), lesserThen, greaterThen, 1);
                row(gap + " unlike: hand(4, #)", 1, (m, what) -> m.hand(4, what), greaterThen, lesserThen, 2);
            }
        }
    }

    @Sentence("A YEAR: of each two who are WED LOOPS come nearer, likewise BARS: are they 2 or more unlike, each 1 nearer; "
        + "1 unlike, the lesser becomes as the greater. YEAR is 1 more.")
    void onlyThoseWhoAreWed() {
        fresh("vain left 0 0 0;vain left 0 9 0;vain right 9 9 0;vain right 9 0 0;wed 1 4;");
        x.years(1);
        row("hand(#, 1)", 0, (m, a) -> m.hand(a, 1), 0, 1);
        row("hand(#, 1)", 4, (m, a) -> m.hand(a, 1), 8, 9);
        row("hand(#, 2)", 0, (m, a) -> m.hand(a, 2), 0, 9);
        x.part(4);
        x.years(20);
        row("parted: hand(#, 1)", 0, (m, a) -> m.hand(a, 1), 0, 1);
        row("parted: hand(#, 1)", 4, (m, a) -> m.hand(a, 1), 8, 9);
        is("YEARS pass all the same", x.rule(4), 21);
    }

    @Sentence("n YEARS (0 to 20): YEAR then. BAD; FULL: YEAR would be 1000 or more.")
    void howManyYearsMayPass() {
        rich();
        badBeyond("years(#)", 0, 20, (m, n) -> m.years(n));
        is("0", x.years(0), 3);
        is("1", x.years(1), 4);
        is("19", x.years(19), 23);
        is("20", x.years(20), 43);
        is("no HANDS", new HandMarket().years(20), 20);
    }

    @Sentence("n YEARS (0 to 20): YEAR then. BAD; FULL: YEAR would be 1000 or more.")
    void noYear1000() {
        fresh("vain left 1 0 0;vain right 9 9 0;", m -> passYears(m, 980));
        x.wed(0, 4);
        is("980 and 20", x.years(20), FULL);
        is("980 and 21", x.years(21), BAD);
        is("LOOPS stay", x.hand(0, 1), 1);
        is("980 and 19", x.years(19), 999);
        is("LOOPS come nearer", x.hand(0, 1), 5);
        is("999 and 1", x.years(1), FULL);
        is("999 and 20", x.years(20), FULL);
        is("999 and none", x.years(0), 999);
        is("999 and -1", x.years(-1), BAD);
        is("YEAR", x.rule(4), 999);
        fresh("vain left 1 0 0;vain right 9 9 0;wed 0 4;", m -> {
            passYears(m, 979);
            m.alter(0, 1, 0);
        });
        is("979 and 20", x.years(20), 999);
        fresh("vain left 1 0 0;vain right 9 9 0;wed 0 4;", m -> {
            passYears(m, 980);
            m.alter(0, 1, 0);
        });
        refused("980 and 20", FULL, m -> m.years(20));
        refused("980 and MOST", BAD, m -> m.years(MOST));
    }

    private static void passYears(HandMarket m, int n) {
        for (int i = 0; i < n / 20; i++) {
            m.years(20);
        }
        m.years(n % 20);
    }

    @Sentence("Behind how many YEARS (0 to 20) LOOPS and BARS of all who are WED are alike. NONE: behind none.")
    void yearsTillAllAreAlike() {
        is("no HANDS", x.alike(), 0);
        fresh("vain left 0 0 0;vain right 9 9 0;");
        is("none is WED", x.alike(), 0);
        x.wed(0, 4);
        int[] wants = {0, 1, 1, 2, 2, 3, 3, 4, 4, 5};
        for (int gap = 0; gap <= 9; gap++) {
            x.alter(0, 1, 9 - gap);
            x.alter(0, 2, 9);
            is(gap + " unlike by LOOPS", x.alike(), wants[gap]);
            x.alter(0, 1, 9);
            x.alter(0, 2, 9 - gap);
            is(gap + " unlike by BARS", x.alike(), wants[gap]);
        }
        is("YEAR stays", x.rule(4), 0);
        is("BARS stay", x.hand(0, 2), 0);
        x.years(4);
        is("the last YEAR", x.alike(), 1);
        x.years(1);
        is("alike", x.alike(), 0);
        x.alter(0, 3, 2);
        is("LEAN does not matter", x.alike(), 0);
    }

    @Sentence("Behind how many YEARS (0 to 20) LOOPS and BARS of all who are WED are alike. NONE: behind none.")
    void yearsTillThoseMostUnlikeAreAlike() {
        fresh("vain left 0 0 0;vain left 5 5 0;vain right 1 0 0;vain right 5 8 0;wed 0 4;wed 1 5;");
        is("the later two", x.alike(), 2);
        x.part(1);
        is("the other two", x.alike(), 1);
        fresh("vain left 0 9 0;vain right 9 0 0;", m -> passYears(m, 999));
        x.wed(0, 4);
        is("behind how many, though none may pass", x.alike(), 5);
        is("YEAR stays", x.rule(4), 999);
    }

    // ---- promises 24 to 26

    @Sentence("The two HANDS least unlike (LOOPS and BARS; any sides): 10 times the lesser and the greater, of several the least "
        + "(what 0), how unlike they are (1). BAD; NONE: there are no two.")
    void theTwoLeastUnlike() {
        is("no HANDS", x.near(0), NONE);
        is("no HANDS, how unlike", x.near(1), NONE);
        badBeyond("no HANDS: near(#)", 0, 1, (m, what) -> m.near(what));
        fresh("vain left 1 1 1;");
        row("one HAND: near(#)", 0, (m, what) -> m.near(what), NONE, NONE);
        fresh("vain right 1 1 1;");
        row("one HAND: near(#)", 0, (m, what) -> m.near(what), NONE, NONE);
        fresh("vain right 0 0 1;vain right 9 9 1;");
        row("two HANDS: near(#)", 0, (m, what) -> m.near(what), 45, 18);
        badBeyond("near(#)", 0, 1, (m, what) -> m.near(what));
        fresh("vain left 1 1 1;".repeat(4) + "vain right 1 1 1;".repeat(4));
        row("all alike: near(#)", 0, (m, what) -> m.near(what), 1, 0);
        for (int a = 0; a < 6; a++) {
            x.alter(a, 1, a < 3 ? 9 : 5);
            x.alter(a, 2, a == 0 || a == 5 ? 9 : a);
        }
        row("the last two: near(#)", 0, (m, what) -> m.near(what), 67, 0);
        x.alter(7, 2, 2);
        row("1 and 2 are as near: near(#)", 0, (m, what) -> m.near(what), 12, 1);
        x.alter(0, 4, 7);
        x.run(1, true);
        row("what PAGES show does not matter: near(#)", 0, (m, what) -> m.near(what), 12, 1);
    }

    @Sentence("The PEN (any HAND) by which, were it that of a HAND, this one by ASKING of LEFTS is with whom it LIKES most "
        + "(nobody: least of all), of several the first (what 0), with whom (1: NONE). BAD.")
    void thePenToForgeBy() {
        rich();
        badFor("forge(#, 0)", (m, a) -> m.forge(a, 0), -1, 3, 6, 7, 8, LEAST, MOST);
        badBeyond("forge(0, #)", 0, 1, (m, what) -> m.forge(0, what));
        fresh(RIVALS);
        row("0 needs the PEN of 1: forge(0, #)", 0, (m, what) -> m.forge(0, what), 1, 4);
        row("1 by its own: forge(1, #)", 0, (m, what) -> m.forge(1, what), 1, 4);
        row("4 by any, it is with 1: forge(4, #)", 0, (m, what) -> m.forge(4, what), 0, 1);
        is("nothing has changed", x.hand(0, 4), 0);
        x.fold(0, 4, true);
        row("nobody by any: forge(0, #)", 0, (m, what) -> m.forge(0, what), 0, NONE);
        fresh("vain right 1 1 1;");
        row("no other HAND: forge(4, #)", 0, (m, what) -> m.forge(4, what), 4, NONE);
        // 0 likes 4 by 0 whatever it writes, but has it only if it writes like 1
        fresh("vain left 0 0 0;vain left 9 9 0;vain right 0 0 0;");
        row("no LIKES are more than nobody: forge(0, #)", 0, (m, what) -> m.forge(0, what), 1, 4);
        fresh(handsOf(4, 4));
        row("as 3, being the lesser HAND: forge(0, #)", 0, (m, what) -> m.forge(0, what), 3, 7);
        x.alter(3, 4, 7);
        row("by the last HAND's PEN alone: forge(0, #)", 0, (m, what) -> m.forge(0, what), 7, 7);
        // were RIGHTS to ask, 4 would be with 1 by the PEN of 0 already
        fresh(RING);
        row("as LEFTS ask: forge(4, #)", 0, (m, what) -> m.forge(4, what), 1, 1);
    }

    @Sentence("Two HANDS that are to change PENS so that by ASKING of LEFTS there are most LIKES in all, more than now: 10 times "
        + "the lesser and the greater, of several the least (what 0), these LIKES (1). BAD; NONE: by none.")
    void twoToChangePens() {
        row("no HANDS: swap(#)", 0, (m, what) -> m.swap(what), NONE, NONE);
        badBeyond("no HANDS: swap(#)", 0, 1, (m, what) -> m.swap(what));
        fresh("vain left 1 1 1;");
        row("one HAND: swap(#)", 0, (m, what) -> m.swap(what), NONE, NONE);
        fresh(TWO);
        row("as many LIKES: swap(#)", 0, (m, what) -> m.swap(what), NONE, NONE);
        fresh("plain left 5 5 0;plain right 4 5 0;");
        is("now", x.sum(1), 38);
        row("more: swap(#)", 0, (m, what) -> m.swap(what), 4, 40);
        is("nothing has changed", x.sum(1), 38);
        badBeyond("swap(#)", 0, 1, (m, what) -> m.swap(what));
        x.alter(0, 4, 4);
        x.alter(4, 4, 0);
        is("then", x.sum(1), 40);
        row("none is more: swap(#)", 0, (m, what) -> m.swap(what), NONE, NONE);
        // 0 is with 5; both 4 and 5 would be liked most by the PEN of 6
        fresh("vain left 9 0 0;vain right 0 0 0;vain right 0 5 0;vain right 9 0 0;fold 0 6;");
        row("of several the least: swap(#)", 0, (m, what) -> m.swap(what), 46, 18);
        fresh(handsOf(4, 4));
        row("all are in PAIRS and all are vain: swap(#)", 0, (m, what) -> m.swap(what), NONE, NONE);
    }

    @Sentence("Two HANDS that are to change PENS so that by ASKING of LEFTS there are most LIKES in all, more than now: 10 times "
        + "the lesser and the greater, of several the least (what 0), these LIKES (1). BAD; NONE: by none.")
    void changedPensByAskingOfLefts() {
        fresh("vain left 5 3 0;plain right 0 4 0;pen 4 0;");
        row("one PEN for both, and none of HANDS that there are not: swap(#)", 0, (m, what) -> m.swap(what), NONE, NONE);
        fresh(RING);
        row("the first two: swap(#)", 0, (m, what) -> m.swap(what), 1, 80);
        // by 0 and 5 there are 58 too, were RIGHTS to ask
        fresh("vain left 5 6 0;plain left 2 5 0;vain right 4 8 0;plain right 7 1 0;pen 1 4;");
        row("LEFTS ask then: swap(#)", 0, (m, what) -> m.swap(what), 15, 58);
        fresh("trembler left 4 4 0;vain left 3 5 0;plain left 1 2 1;trembler right 5 1 0;plain right 2 4 0;"
            + "taught right 5 2 1;pen 0 6;");
        is("by LEFTS now", x.sum(1), 83);
        is("by RIGHTS now", x.sum(3), 92);
        row("LEFTS ask now: swap(#)", 0, (m, what) -> m.swap(what), 14, 92);
    }

    // ---- promises 29 to 32

    @Sentence("SEEN: LOOPS, BARS, LEAN (what 0 to 2) of the PAGE of a HAND are v (0 to 9): how many are. BAD; FULL.")
    void whatMayBeSeen() {
        rich();
        badBeyond("see(0, #, 0)", 0, 2, (m, what) -> m.see(0, what, 0));
        for (int what = 0; what <= 2; what++) {
            int trait = what;
            badBeyond("see(0, " + trait + ", #)", 0, 9, (m, v) -> m.see(0, trait, v));
        }
        badFor("see(#, 0, 0)", (m, a) -> m.see(a, 0, 0), -1, 3, 6, 7, 8, LEAST, MOST);
        fresh(TOWN);
        is("LOOPS 0", x.see(0, 0, 0), 1);
        is("LOOPS 9", x.see(2, 0, 9), 2);
        is("BARS 0", x.see(4, 1, 0), 3);
        is("BARS 9", x.see(5, 1, 9), 4);
        is("LEAN 0", x.see(1, 2, 0), 5);
        is("LEAN 9, beyond any", x.see(1, 2, 9), 6);
        is("the 7th", x.see(1, 2, 2), FULL);
        is("six", x.count(0), 6);
    }

    @Sentence({"SEEN (6): of a PAGE LOOPS (0), BARS (1), LEAN (2) are so much.",
        "SEEN: LOOPS, BARS, LEAN (what 0 to 2) of the PAGE of a HAND are v (0 to 9): how many are. BAD; FULL."})
    void noSeventhIsSeen() {
        fresh(TOWN, m -> {
            for (int i = 0; i < 6; i++) {
                m.see(5, 2, 1);
            }
        });
        refused("the 7th", FULL, m -> m.see(5, 0, 8));
        refused("the 7th, of another", FULL, m -> m.see(0, 0, 0));
        refused("the 7th, wrong", BAD, m -> m.see(3, 0, 0));
        is("LEAN alone is SEEN", x.fits(5), 50);
        x.forget(5);
        is("room for one", x.see(5, 0, 8), 6);
        is("it is SEEN", x.fits(5), 32);
        is("no room", x.see(5, 0, 8), FULL);
    }

    @Sentence("SEEN are the first n alone: how many there were. BAD.")
    void forgettingAllButTheFirst() {
        fresh(TOWN);
        is("0 of none", x.forget(0), 0);
        refused("1 of none", BAD, m -> m.forget(1));
        fresh(TOWN, m -> {
            m.see(5, 2, 1);
            m.see(5, 1, 8);
            m.see(5, 0, 0);
        });
        badBeyond("forget(#) of 3", 0, 3, (m, n) -> m.forget(n));
        badFor("forget(#) of 3", (m, n) -> m.forget(n), 6);
        is("3 of 3", x.forget(3), 3);
        is("none FITS", x.fits(5), 0);
        is("2 of 3", x.forget(2), 3);
        is("5 FITS", x.fits(5), 32);
        is("3 of 2", x.forget(3), BAD);
        is("1 of 2", x.forget(1), 2);
        is("1, 4, 5 FIT", x.fits(5), 50);
        is("0 of 1", x.forget(0), 1);
        is("all FIT", x.fits(5), 55);
        is("nothing is SEEN", x.count(0), 0);
        is("the first anew", x.see(5, 0, 9), 1);
        is("1 FITS", x.fits(5), 2);
    }

    @Sentence("PENS that FIT a PAGE are HANDS by each of which, were it its PEN, all that is SEEN of it would be so (all else as "
        + "it is).")
    void pensByWhichAllWouldBeSo() {
        fresh(TOWN);
        x.see(2, 0, 4);
        is("2 alone has LOOPS 4", x.fits(2), 4);
        is("of others nothing is SEEN", x.fits(4), 55);
        x.see(2, 0, 3);
        is("both can't be so", x.fits(2), 0);
        x.forget(0);
        // 0 is RUN: beside 1, who writes 9 1, LOOPS would be 6 9 6 5 8
        x.see(0, 0, 6);
        is("with the next one's PEN as it is", x.fits(0), 5);
        is("its PEN stays", x.hand(0, 4), 4);
        x.run(0, false);
        is("RUN no more: none has LOOPS 6", x.fits(0), 0);
    }

    @Sentence("PENS that FIT the PAGE of a HAND (bits). BAD.")
    void fitsOfAHandThatThereIs() {
        rich();
        badFor("fits(#)", (m, a) -> m.fits(a), -1, 3, 6, 7, 8, LEAST, MOST);
        fresh(handsOf(4, 4));
        is("nothing SEEN: all 8", x.fits(0), 255);
        x.see(7, 0, 8);
        is("the last one", x.fits(7), 128);
        x.see(7, 2, 1);
        is("none", x.fits(7), 0);
        fresh("vain right 1 1 1;");
        is("one HAND", x.fits(4), 16);
    }

    @Sentence("What to look at next of the PAGE of a HAND (0 LOOPS, 1 BARS, 2 LEAN) so that of PENS that FIT fewest are left at "
        + "the worst, fewer than now, the first (what 0), how many these are (1). BAD; NONE: at nothing.")
    void whatToLookAt() {
        rich();
        badFor("look(#, 0)", (m, a) -> m.look(a, 0), -1, 3, 6, 7, 8, LEAST, MOST);
        badBeyond("look(0, #)", 0, 1, (m, what) -> m.look(0, what));
        fresh("vain left 5 5 1;".repeat(4) + "vain right 5 5 1;".repeat(4));
        row("all alike: look(0, #)", 0, (m, what) -> m.look(0, what), NONE, NONE);
        x.alter(7, 3, 2);
        row("one by LEAN: look(0, #)", 0, (m, what) -> m.look(0, what), 2, 7);
        x.alter(7, 2, 4);
        row("one by BARS too, the first: look(0, #)", 0, (m, what) -> m.look(0, what), 1, 7);
        x.alter(0, 3, 0);
        row("three by LEAN: look(0, #)", 0, (m, what) -> m.look(0, what), 2, 6);
        for (int a = 0; a < 8; a++) {
            x.alter(a, 1, a);
        }
        row("all by LOOPS: look(0, #)", 0, (m, what) -> m.look(0, what), 0, 1);
        x.see(0, 0, 3);
        row("one FITS: look(0, #)", 0, (m, what) -> m.look(0, what), NONE, NONE);
        row("of another all FIT: look(1, #)", 0, (m, what) -> m.look(1, what), 0, 1);
        x.see(0, 0, 9);
        row("none FITS: look(0, #)", 0, (m, what) -> m.look(0, what), NONE, NONE);
        fresh("vain left 9 0 0;");
        row("one HAND: look(0, #)", 0, (m, what) -> m.look(0, what), NONE, NONE);
        fresh("vain left 9 0 0;vain left 0 9 0;");
        row("two, by LOOPS and by BARS: look(0, #)", 0, (m, what) -> m.look(0, what), 0, 1);
        // beside the other's 0 9, LOOPS 9 and 0 show 4 and 0
        x.run(0, true);
        row("where it has RUN: look(0, #)", 0, (m, what) -> m.look(0, what), 0, 1);
        x.alter(0, 1, 1);
        row("LOOPS 1 and 0 show 0: look(0, #)", 0, (m, what) -> m.look(0, what), 1, 1);
    }

    // ---- promise 33

    @Sentence("By itself, n times (1 to 60) by a seed: the seed becomes seed times 1103515245 and 12345; bits 16 to 30 of it "
        + "modulo HANDS (LEFTS first, one behind another) is one, then (once more) modulo HANDS its PEN: PAIRS by ASKING of LEFTS "
        + "in the end (what 0), all LIKES in them behind each, summed (1). BAD; STATE: there are no HANDS.")
    void driftBounds() {
        refused("no HANDS", STATE, m -> m.drift(1, 1, 0));
        refused("no HANDS, LIKES", STATE, m -> m.drift(1, 60, 1));
        refused("no HANDS, no such n", BAD, m -> m.drift(1, 61, 0));
        refused("no HANDS, no such what", BAD, m -> m.drift(1, 1, 2));
        rich();
        badBeyond("drift(1, #, 0)", 1, 60, (m, n) -> m.drift(1, n, 0));
        badBeyond("drift(1, #, 1)", 1, 60, (m, n) -> m.drift(1, n, 1));
        badBeyond("drift(1, 1, #)", 0, 1, (m, what) -> m.drift(1, 1, what));
        fresh("vain left 1 1 1;");
        row("one HAND: drift(1, 1, #)", 0, (m, what) -> m.drift(1, 1, what), 0, 0);
        fresh("vain right 1 1 1;");
        row("one RIGHT: drift(1, 60, #)", 0, (m, what) -> m.drift(1, 60, what), 0, 0);
    }

    @Sentence("By itself, n times (1 to 60) by a seed: the seed becomes seed times 1103515245 and 12345; bits 16 to 30 of it "
        + "modulo HANDS (LEFTS first, one behind another) is one, then (once more) modulo HANDS its PEN: PAIRS by ASKING of LEFTS "
        + "in the end (what 0), all LIKES in them behind each, summed (1). BAD; STATE: there are no HANDS.")
    void driftWrapsAround() {
        for (int seed : new int[] {0, 1, -1, 2, 65535, 65536, 1 << 30, MOST, MOST - 1, LEAST, LEAST + 1}) {
            // where 1 and 5 are FOLDED, both are alone whenever 0 is with 4
            for (String town : new String[] {TOWN, handsOf(1, 3), handsOf(4, 4), RING + "fold 1 5;"}) {
                for (int n : new int[] {1, 2, 59, 60}) {
                    driftIs(town, seed, n);
                }
            }
        }
    }

    /** The same done call by call on one more object, by numbers that have no end. */
    private void driftIs(String town, int seed, int n) {
        fresh(town);
        HandMarket other = again();
        int lefts = other.rule(0);
        int size = lefts + other.rule(1);
        BigInteger number = BigInteger.valueOf(seed);
        int likes = 0;
        for (int i = 0; i < n; i++) {
            int[] drawn = new int[2];
            for (int j = 0; j < 2; j++) {
                number = number.multiply(BigInteger.valueOf(1103515245)).add(BigInteger.valueOf(12345));
                int modulo = number.shiftRight(16).mod(BigInteger.valueOf(32768)).intValue() % size;
                drawn[j] = modulo < lefts ? modulo : 4 + modulo - lefts;
            }
            other.alter(drawn[0], 4, drawn[1]);
            likes += other.sum(1);
        }
        is("drift(" + seed + ", " + n + ", 0)", x.drift(seed, n, 0), other.sum(0));
        is("drift(" + seed + ", " + n + ", 1)", x.drift(seed, n, 1), likes);
        for (int a = 0; a < 8; a++) {
            is("by itself: PEN of " + a, x.hand(a, 4), again().hand(a, 4));
        }
    }
}
