import java.math.BigInteger;

/** PAIRS, fractions and promises 16 to 21, 27 and 28 at their boundaries. */
public final class PairBoundaryTest extends Boundary {
    /** Two LEFTS for one RIGHT, who would rather have 1. */
    private static final String RIVALS = "plain left 0 0 0;plain left 5 5 0;plain right 5 5 0;";

    public static void main(String[] args) {
        new PairBoundaryTest().runAll();
    }

    // ---- what PAIRS are

    @Sentence("======== 2 PAIRS: each LEFT is with one RIGHT or nobody, each RIGHT with one LEFT or nobody, none FOLDED.")
    void noneFoldedIsWithTheOther() {
        fresh(TWO);
        is("the only two", x.asked(0, 0), 4);
        is("by RIGHTS too", x.asked(1, 4), 0);
        is("most", x.most(10), 4);
        x.fold(0, 4, true);
        is("FOLDED", x.asked(0, 0), NONE);
        is("FOLDED, by RIGHTS", x.asked(1, 4), NONE);
        is("nobody HOLDS", x.hold(0), 1);
        is("nobody is liked", x.most(0), 0);
        is("with nobody", x.most(10), NONE);
        x.fold(0, 4, false);
        is("FOLDED no more", x.asked(1, 0), 4);
    }

    @Sentence("======== 2 PAIRS: each LEFT is with one RIGHT or nobody, each RIGHT with one LEFT or nobody, none FOLDED.")
    void moreOfOneSideThanOfTheOther() {
        for (int lefts = 0; lefts <= 4; lefts++) {
            for (int rights = 0; rights <= 4; rights++) {
                fresh(handsOf(lefts, rights));
                int both = Math.min(lefts, rights);
                String sides = lefts + " LEFTS, " + rights + " RIGHTS: ";
                is(sides + "by LEFTS", x.sum(0), both);
                is(sides + "by RIGHTS", x.sum(2), both);
                is(sides + "alone", Integer.bitCount(x.alone()), lefts + rights - 2 * both);
                is(sides + "HOLD", x.hold(0), 1);
                is(sides + "quarrels, as none is WED", x.quarrel(0), lefts * rights);
                is(sides + "the mean, none stolen", x.mean(0, 0), both);
            }
        }
    }

    @Sentence("PAIRS HOLD, if there are no LEFT and RIGHT, not FOLDED, not with each other, who both WOULD RATHER have each "
        + "other than whom they have.")
    void pairsThatHold() {
        fresh(LADDER);
        x.wed(0, 4);
        // of 1, 2, 3 with nobody: 4 would rather have them, and 5, 6, 7 are with nobody
        is("0 with 4", x.quarrel(0), 12);
        is("the first", x.quarrel(1), 14);
        x.part(0);
        x.wed(3, 4);
        is("3 with 4", x.quarrel(0), 9);
        x.wed(2, 5);
        is("2 with 5", x.quarrel(0), 4);
        x.wed(1, 6);
        is("1 with 6", x.quarrel(0), 1);
        is("0 and 7 have nobody", x.quarrel(1), 7);
        x.fold(0, 7, true);
        is("FOLDED they do not quarrel", x.quarrel(0), 0);
        x.fold(0, 7, false);
        x.wed(0, 7);
        is("they HOLD", x.quarrel(0), 0);
        is("none is first", x.quarrel(1), NONE);
    }

    @Sentence("ASKING: of those on one side, who are with nobody, the first who can asks whom it WOULD RATHER have of those it "
        + "has not asked; who is asked keeps whom it WOULD RATHER have; till nobody can ask.")
    void askingTillNobodyCan() {
        fresh(LADDER);
        row("asked(0, #)", 0, (m, a) -> m.asked(0, a), 7, 6, 5, 4, 3, 2, 1, 0);
        row("asked(1, #)", 0, (m, a) -> m.asked(1, a), 7, 6, 5, 4, 3, 2, 1, 0);
        x.fold(0, 7, true);
        row("0 has asked all: asked(0, #)", 0, (m, a) -> m.asked(0, a), NONE, 6, 5, 4, 3, 2, 1, NONE);
        row("7 has asked all: asked(1, #)", 0, (m, a) -> m.asked(1, a), NONE, 6, 5, 4, 3, 2, 1, NONE);
        x.fold(3, 4, true);
        row("4 keeps 2: asked(0, #)", 0, (m, a) -> m.asked(0, a), NONE, 6, 4, 5, 2, 3, 1, NONE);
    }

    // ---- promises 16 to 21

    @Sentence("With whom a HAND is by ASKING: LEFTS ask (side 0), RIGHTS (1). BAD; NONE: with nobody.")
    void whoAsks() {
        fresh(RING);
        row("asked(0, #)", 0, (m, a) -> m.asked(0, a), 4, 5, BAD, BAD, 0, 1, BAD, BAD, BAD);
        row("asked(1, #)", 0, (m, a) -> m.asked(1, a), 5, 4, BAD, BAD, 1, 0, BAD, BAD, BAD);
        badBeyond("asked(#, 0)", 0, 1, (m, side) -> m.asked(side, 0));
        badFor("asked(0, #)", (m, a) -> m.asked(0, a), -1, 2, 3, 6, 8, LEAST, MOST);
        badFor("asked(1, #)", (m, a) -> m.asked(1, a), -1, 2, 3, 6, 8, LEAST, MOST);
        fresh(RIVALS);
        row("asked(0, #)", 0, (m, a) -> m.asked(0, a), NONE, 4);
        row("asked(1, #)", 0, (m, a) -> m.asked(1, a), NONE, 4);
        fresh("vain left 1 1 1;");
        is("nobody to ask", x.asked(0, 0), NONE);
        is("nobody to be asked by", x.asked(1, 0), NONE);
    }

    @Sentence("How many PAIRS there are by ASKING of LEFTS (what 0), all LIKES of both in them, summed (1); likewise of RIGHTS "
        + "(2, 3). BAD.")
    void sumsOfBothSides() {
        fresh(RING);
        row("sum(#)", 0, (m, what) -> m.sum(what), 2, 68, 2, 44);
        badBeyond("sum(#)", 0, 3, (m, what) -> m.sum(what));
        fresh(LADDER);
        // 18 and 4, 16 and 3, 14 and 2, 12 and 1
        row("sum(#)", 0, (m, what) -> m.sum(what), 4, 70, 4, 70);
        fresh();
        row("no HANDS: sum(#)", 0, (m, what) -> m.sum(what), 0, 0, 0, 0);
        fresh("vain left 0 0 0;vain right 0 0 0;");
        row("no LIKES: sum(#)", 0, (m, what) -> m.sum(what), 1, 0, 1, 0);
        fresh("taught left 9 9 2;taught right 9 9 2;".repeat(4));
        row("most LIKES: sum(#)", 0, (m, what) -> m.sum(what), 4, 184, 4, 184);
    }

    @Sentence("How many PAIRS (as a whole) HOLD (what 0), in how many of these a HAND is with the one with whom it is by ASKING "
        + "of LEFTS (10 and a). BAD.")
    void howManyHold() {
        fresh(RING);
        is("hold(0)", x.hold(0), 2);
        row("hold(#)", 9, (m, what) -> m.hold(what), BAD, 1, 1, BAD, BAD, 1, 1, BAD, BAD, BAD);
        badFor("hold(#)", (m, what) -> m.hold(what), -1, 1, 4, 9, 12, 13, 16, 17, 18, LEAST, LEAST + 10, MOST);
        fresh(LADDER);
        is("hold(0)", x.hold(0), 1);
        row("hold(#)", 9, (m, what) -> m.hold(what), BAD, 1, 1, 1, 1, 1, 1, 1, 1, BAD);
        fresh();
        is("no HANDS: nobody with nobody", x.hold(0), 1);
        is("no HAND", x.hold(10), BAD);
        fresh(RIVALS);
        is("with nobody by ASKING, so in all", x.hold(10), 1);
        // two rings beside each other: 0, 1 with 4, 5 and 2, 3 with 6, 7
        fresh("plain left 0 0 0;plain left 9 9 0;".repeat(2) + "plain right 3 3 0;plain right 6 6 0;".repeat(2), m -> {
            for (int i = 0; i < 4; i += 2) {
                m.alter(i, 4, 5 + i);
                m.alter(i + 1, 4, 4 + i);
                m.alter(4 + i, 4, i);
                m.alter(5 + i, 4, i + 1);
                for (int a = i; a <= i + 1; a++) {
                    m.fold(a, 6 - i, true);
                    m.fold(a, 7 - i, true);
                }
            }
        });
        is("each two HOLD two ways", x.hold(0), 4);
        row("hold(#)", 10, (m, what) -> m.hold(what), 2, 2, 2, 2, 2, 2, 2, 2);
    }

    @Sentence("How many PAIRS (as a whole) HOLD (what 0), in how many of these a HAND is with the one with whom it is by ASKING "
        + "of LEFTS (10 and a). BAD.")
    void holdingByAskingOfLefts() {
        // 0 5, 1 4 by ASKING of LEFTS; 0 4, 1 5 HOLD too, and are ahead of these by numbers
        fresh("vain left 0 6 0;plain left 2 3 0;vain right 1 6 0;plain right 7 3 0;");
        row("asked(0, #)", 0, (m, a) -> m.asked(0, a), 5, 4);
        is("both HOLD", x.hold(0), 2);
        row("hold(#)", 10, (m, what) -> m.hold(what), 1, 1);
        // by LEFTS 0 4, 1 6, 2 5, by RIGHTS 0 6, 1 5, 2 4; between them 0 5, 1 6, 2 4
        fresh("plain left 4 3 0;vain left 1 0 0;vain left 3 9 0;vain right 5 2 0;plain right 6 2 0;plain right 8 4 0;pen 1 4;");
        is("three HOLD", x.hold(0), 3);
        row("hold(#)", 10, (m, what) -> m.hold(what), 1, 2, 1, BAD, 1, 1, 2, BAD);
    }

    @Sentence("PAIRS as a whole by which all LIKES of both, summed, are most: that sum (what 0); 10 and a LEFT: with whom it is "
        + "by the first such (by LEFTS, each with nobody ahead of RIGHTS by numbers; NONE: with nobody). BAD.")
    void mostLikes() {
        fresh(RING);
        is("most(0)", x.most(0), 68);
        row("most(#)", 9, (m, what) -> m.most(what), BAD, 4, 5, BAD, BAD, BAD, BAD);
        badFor("most(#)", (m, what) -> m.most(what), -1, 1, 9, 12, 13, 14, 15, 18, LEAST, LEAST + 10, MOST);
        fresh(LADDER);
        // whoever is with whom, it is 70, so the first by LEFTS
        is("most(0)", x.most(0), 70);
        row("most(#)", 9, (m, what) -> m.most(what), BAD, 4, 5, 6, 7, BAD);
        fresh();
        is("no HANDS", x.most(0), 0);
        is("no LEFT", x.most(10), BAD);
        fresh("vain left 0 0 0;vain right 0 0 0;");
        is("no LIKES", x.most(0), 0);
        is("nobody is ahead", x.most(10), NONE);
        x.alter(4, 1, 1);
        is("one of LIKES", x.most(0), 1);
        is("so with it", x.most(10), 4);
        fresh("plain left 5 5 0;plain left 5 5 0;plain right 5 5 0;");
        is("nobody is ahead of 4", x.most(10), NONE);
        is("so 1 has it", x.most(11), 4);
        x.alter(0, 4, 0);
        x.alter(0, 1, 5);
        x.alter(1, 1, 4);
        is("0 is liked more", x.most(10), 4);
        is("so 1 has nobody", x.most(11), NONE);
        fresh("taught left 9 9 2;taught right 9 9 2;".repeat(4));
        is("most LIKES", x.most(0), 184);
    }

    @Sentence("LEFTS and RIGHTS by whom those who are WED do not HOLD: how many two (what 0), the first as 10 times the LEFT and "
        + "the RIGHT (1). BAD; NONE (1): none.")
    void quarrelsOfThoseWhoAreWed() {
        fresh(LADDER);
        is("none is WED", x.quarrel(0), 16);
        is("the least first", x.quarrel(1), 4);
        badBeyond("quarrel(#)", 0, 1, (m, what) -> m.quarrel(what));
        x.wed(3, 4);
        x.wed(2, 5);
        x.wed(1, 6);
        x.fold(0, 7, true);
        is("none", x.quarrel(0), 0);
        is("no first", x.quarrel(1), NONE);
        fresh(LADDER);
        x.wed(0, 7);
        x.wed(1, 6);
        x.wed(2, 4);
        x.wed(3, 5);
        // 3 would rather have 4, and 4 would rather have 3
        is("one", x.quarrel(0), 1);
        is("it", x.quarrel(1), 34);
        fresh();
        is("no HANDS", x.quarrel(0), 0);
        is("no HANDS, no first", x.quarrel(1), NONE);
    }

    @Sentence("LEFTS and RIGHTS by whom those who are WED do not HOLD: how many two (what 0), the first as 10 times the LEFT and "
        + "the RIGHT (1). BAD; NONE (1): none.")
    void quarrelsOfThoseWhoAreWedAndFolded() {
        // 0 likes 4 by 20, 5 by 10
        fresh("plain left 5 5 0;plain right 5 5 0;plain right 0 0 0;wed 0 4;");
        is("0 would rather have 4", x.quarrel(0), 0);
        x.fold(0, 4, true);
        is("of those FOLDED with it nobody", x.quarrel(0), 1);
        is("but 5", x.quarrel(1), 5);
        x.fold(0, 5, true);
        is("FOLDED with both", x.quarrel(0), 0);
    }

    @Sentence("HANDS whom by ASKING of LEFTS nobody has (bits).")
    void whoIsAlone() {
        is("no HANDS", x.alone(), 0);
        fresh(LADDER);
        is("nobody is", x.alone(), 0);
        x.fold(0, 7, true);
        is("0 and 7", x.alone(), 129);
        for (int a = 0; a < 4; a++) {
            for (int b = 4; b < 8; b++) {
                x.fold(a, b, true);
            }
        }
        is("all are", x.alone(), 255);
        fresh(TOWN);
        is("2 is, and none that there is not", x.alone(), 4);
        fresh("vain right 1 1 1;");
        is("a RIGHT with no LEFT", x.alone(), 16);
    }

    // ---- promises 27 and 28

    private void meanIs(int v, long top, long bottom) {
        is("mean(" + v + ", 0)", x.mean(v, 0), top);
        is("mean(" + v + ", 1)", x.mean(v, 1), bottom);
    }

    private void luckIs(int v, int a, long top, long bottom) {
        is("luck(" + v + ", " + a + ", 0)", x.luck(v, a, 0), top);
        is("luck(" + v + ", " + a + ", 1)", x.luck(v, a, 1), bottom);
    }

    @Sentence("Fractions are in lowest terms, the denominator above 0 (0 is 0 by 1).")
    void lowestTerms() {
        meanIs(0, 0, 1);
        meanIs(5, 0, 1);
        meanIs(10, 0, 1);
        fresh("vain left 1 1 1;");
        meanIs(5, 0, 1);
        luckIs(5, 0, 0, 1);
        fresh(TWO);
        meanIs(0, 1, 1);
        meanIs(2, 16, 25);
        meanIs(5, 1, 4);
        meanIs(10, 0, 1);
        luckIs(0, 0, 1, 1);
        luckIs(2, 0, 16, 25);
        luckIs(5, 4, 1, 4);
        luckIs(10, 4, 0, 1);
        fresh(LADDER);
        meanIs(0, 4, 1);
        luckIs(0, 7, 1, 1);
    }

    @Sentence("Each PAGE is stolen by v out of ten (0 to 10), by itself (that HAND then is with nobody; what PAGES show stays): "
        + "the mean of how many PAIRS there are by ASKING of LEFTS: 0, 1. BAD.")
    void meanByOdds() {
        fresh(TWO);
        for (int v = 0; v <= 10; v++) {
            int bothLeft = (10 - v) * (10 - v);
            int common = BigInteger.valueOf(bothLeft).gcd(BigInteger.valueOf(100)).intValue();
            meanIs(v, bothLeft / common, 100 / common);
        }
        fresh(LADDER);
        // as many as the lesser side has left: the squares of the odds that 1, 2, 3, 4 are left, summed
        meanIs(1, 16605081, 5000000);
        meanIs(9, 605081, 5000000);
        meanIs(0, 4, 1);
        meanIs(10, 0, 1);
        rich();
        badBeyond("mean(#, 0)", 0, 10, (m, v) -> m.mean(v, 0));
        badBeyond("mean(#, 1)", 0, 10, (m, v) -> m.mean(v, 1));
        badBeyond("mean(5, #)", 0, 1, (m, what) -> m.mean(5, what));
    }

    @Sentence("Each PAGE is stolen by v out of ten (0 to 10), by itself (that HAND then is with nobody; what PAGES show stays): "
        + "the mean of how many PAIRS there are by ASKING of LEFTS: 0, 1. BAD.")
    void whatPagesShowStays() {
        // RUN makes 0 and 1 show 2 2; were it undone by theft, 4 would rather have 2 than 0
        fresh("plain left 0 0 0;plain left 5 5 0;plain left 3 3 0;plain right 2 2 0;run 0;");
        meanIs(5, 7, 16);
        luckIs(5, 0, 1, 4);
        luckIs(5, 1, 1, 8);
        luckIs(5, 2, 1, 16);
        // a PEN whose own PAGE is stolen writes on
        fresh("vain left 0 0 0;vain left 9 9 0;vain right 1 1 0;pen 0 1;pen 1 0;");
        luckIs(5, 0, 1, 4);
        luckIs(5, 1, 1, 8);
    }

    @Sentence("Likewise, that a HAND is with somebody: 0, 1. BAD.")
    void luckByOdds() {
        fresh(LADDER);
        // 3 whenever a RIGHT is left; 0 whenever more RIGHTS are left than LEFTS beside it
        luckIs(1, 3, 89991, 100000);
        luckIs(1, 0, 828549, 1250000);
        luckIs(1, 4, 89991, 100000);
        luckIs(1, 7, 828549, 1250000);
        luckIs(9, 3, 3439, 100000);
        luckIs(10, 3, 0, 1);
        luckIs(0, 0, 1, 1);
        fresh(RIVALS);
        luckIs(0, 0, 0, 1);
        luckIs(0, 1, 1, 1);
        luckIs(1, 0, 81, 1000);
        luckIs(1, 1, 81, 100);
        luckIs(1, 4, 891, 1000);
        rich();
        badBeyond("luck(#, 0, 0)", 0, 10, (m, v) -> m.luck(v, 0, 0));
        badBeyond("luck(5, 0, #)", 0, 1, (m, what) -> m.luck(5, 0, what));
        badFor("luck(5, #, 0)", (m, a) -> m.luck(5, a, 0), -1, 3, 6, 7, 8, LEAST, MOST);
        badFor("luck(5, #, 1)", (m, a) -> m.luck(5, a, 1), -1, 3, 6, 8);
    }
}
