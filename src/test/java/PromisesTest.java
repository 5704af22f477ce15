/** Each promise by itself: ordinary inputs, the edges that the document names, wrong inputs; answers worked out by hand. */
public final class PromisesTest {
    private static final int BAD = -1, STATE = -2, FULL = -3, NONE = -4;

    /** PAGES: 0, 1 show 5 3; 2 shows 4 4; 4 shows 2 5; 5 shows 8 8. */
    private static final String TOWN = "plain left 3 7 0;taught right 2 5 1;vain left 9 1 1;"
        + "trembler right 8 8 1;taught left 4 4 2;pen 0 4;run 0;fold 2 5;wed 0 4;";
    /** LEFTS would have 0 with 4, 1 with 5; RIGHTS the other way: both HOLD. */
    private static final String RING = "plain left 0 0 0;plain left 9 9 0;plain right 3 3 0;plain right 6 6 0;"
        + "pen 0 5;pen 1 4;pen 4 0;pen 5 1;";
    /** Two LEFTS for one RIGHT. */
    private static final String RIVALS = "plain left 0 0 0;plain left 5 5 0;plain right 5 5 0;";

    private final Due due = new Due("PromisesTest");
    private HandMarket x = new HandMarket();

    public static void main(String[] args) {
        PromisesTest t = new PromisesTest();
        t.newObject();
        t.feed();
        t.end();
        t.text();
        t.textFaults();
        t.textRefusedChangesNothing();
        t.fault();
        t.rule();
        t.hand();
        t.page();
        t.likes();
        t.rather();
        t.alter();
        t.run();
        t.fold();
        t.wed();
        t.part();
        t.asked();
        t.sum();
        t.hold();
        t.most();
        t.quarrel();
        t.alone();
        t.years();
        t.alike();
        t.near();
        t.forge();
        t.swap();
        t.mean();
        t.luck();
        t.see();
        t.forget();
        t.fits();
        t.look();
        t.drift();
        t.keepAndBack();
        t.sheet();
        t.lay();
        t.read();
        t.torn();
        t.count();
        t.due.close();
    }

    private void is(String call, long got, long want) {
        due.is(call, got, want);
    }

    private int tell(String text) {
        for (int i = 0; i < text.length(); i++) {
            x.feed(text.charAt(i));
        }
        return x.text();
    }

    /** A new object that a text was told, which it must take. */
    private void fresh(String text) {
        x = new HandMarket();
        int lines = tell(text);
        due.isTrue("taken: " + text, lines >= 0);
    }

    private void refused(String text, int fault, int place) {
        is("text of " + text, tell(text), -10 - place);
        is("fault of " + text, x.fault(), fault);
        is("bytes behind " + text, x.count(2), 0);
    }

    /** A new object for each, as one is used for at most 512 calls. */
    private void newRefuses(String text, int fault, int place) {
        x = new HandMarket();
        refused(text, fault, place);
    }

    private void newObject() {
        x = new HandMarket();
        for (int what = 0; what <= 4; what++) {
            is("new rule " + what, x.rule(what), 0);
        }
        for (int a = 0; a < 8; a++) {
            is("new hand " + a, x.hand(a, 0), BAD);
        }
        for (int k = 0; k < 4; k++) {
            is("new lay " + k, x.lay(k, 0, 0), -11);
        }
        is("new fault", x.fault(), 0);
        is("new torn", x.torn(), 0);
        is("new count 0", x.count(0), 0);
        is("new count 1", x.count(1), 0);
        is("new count 2", x.count(2), 0);
        is("new count 3", x.count(3), NONE);
        is("new count 4", x.count(4), 0);
        is("new count 5", x.count(5), 0);
        is("new back 0", x.back(0), STATE);
        is("new back 1", x.back(1), STATE);
        is("new hold", x.hold(0), 1);
    }

    private void feed() {
        x = new HandMarket();
        is("feed -1", x.feed(-1), BAD);
        is("feed 128", x.feed(128), BAD);
        is("feed 0", x.feed(0), 1);
        is("feed 127", x.feed(127), 2);
        for (int i = 3; i <= 160; i++) {
            is("feed to " + i, x.feed(32), i);
        }
        is("feed 161st", x.feed(32), FULL);
        is("feed 161st, wrong", x.feed(128), BAD);
        is("160 bytes", x.count(2), 160);
    }

    private void end() {
        x = new HandMarket();
        is("end 0 of none", x.end(0), 0);
        is("end 1 of none", x.end(1), BAD);
        for (char c : "run 0;%%".toCharArray()) {
            x.feed(c);
        }
        is("end -1", x.end(-1), BAD);
        is("end 9", x.end(9), BAD);
        is("end 8", x.end(8), 8);
        is("end 6", x.end(6), 8);
        is("left", x.count(2), 6);
        is("only what was kept is read", x.text(), -16);
        is("its fault", x.fault(), 6);
    }

    private void text() {
        x = new HandMarket();
        is("text of nothing", x.text(), 0);
        is("text of blanks", tell("   "), 0);
        is("blanks where they may be", tell("  plain   left 1 2 0 ; run 0  ;  "), 2);
        is("blanks where they need not be", tell("plain left 1 2 0;plain right3 4 0;pen0 4;"), 3);
        is("pen", x.hand(0, 4), 4);
        is("two figures", tell("vain right 01 09 02;"), 1);
        is("BARS", x.hand(4, 2), 9);
        is("LEFTS are gone", x.rule(0), 0);
        is("lines ahead of HANDS", tell("pen 0 4;wed 0 4;run 4;plain left 1 2 0;plain right 3 4 0;"), 5);
        is("PEN told ahead", x.hand(0, 4), 4);
        is("four of each", tell("vain left 1 1 1;vain left 1 1 1;vain left 1 1 1;vain left 1 1 1;"
            + "vain right 1 1 1;vain right 1 1 1;vain right 1 1 1;vain right 1 1 1;"), 8);
        is("LEFTS", x.rule(0), 4);
        is("RIGHTS", x.rule(1), 4);
        is("FOLDED may be WED by a text", tell("fold 0 4;wed 0 4;vain left 1 1 1;vain right 1 1 1;"), 4);
        fresh(TOWN);
        x.see(0, 0, 1);
        x.keep(0);
        x.keep(1);
        x.sheet(0, 0, 3);
        x.years(3);
        is("all anew", tell("plain left 1 2 0;plain right 3 4 0;"), 2);
        is("YEAR", x.rule(4), 0);
        is("RUN", x.rule(2), 0);
        is("WED", x.rule(3), 0);
        is("FOLDED", x.count(5), 0);
        is("PEN", x.hand(0, 4), 0);
        is("SEEN", x.count(0), 0);
        is("IMAGES", x.count(1), 0);
        is("SHEETS stay", x.count(3), 3);
    }

    private void textFaults() {
        newRefuses("%", 1, 0);
        newRefuses("plain left 1 1 1;Run 0;", 1, 17);
        newRefuses("run\t0;", 1, 3);
        newRefuses("run 000;", 1, 4);
        newRefuses("123", 1, 0);
        newRefuses("plain left 1 %", 1, 13);
        newRefuses("clerk left 1 1 1;", 2, 0);
        newRefuses(";", 2, 0);
        newRefuses("5", 2, 0);
        newRefuses("left", 2, 0);
        newRefuses("plai left 1 1 1;", 2, 0);
        newRefuses("plainn left 1 1 1;", 2, 0);
        newRefuses("slain left 1 1 1;", 2, 0);
        newRefuses("plain up 1 1 1;", 2, 6);
        newRefuses("plain 1", 2, 6);
        newRefuses("plain plain", 2, 6);
        newRefuses("plain left left", 2, 11);
        newRefuses("plain left 1 1 1 1;", 2, 17);
        newRefuses("plain left 1 1 1", 2, 16);
        newRefuses("plain left 1 1 1  ", 2, 18);
        newRefuses("plain", 2, 5);
        newRefuses("pen 0;", 2, 5);
        newRefuses("run;", 2, 3);
        newRefuses("fold 0 4 4", 2, 9);
        newRefuses("plain left 10 1 1;", 3, 11);
        newRefuses("plain left 1 10 1;", 3, 13);
        newRefuses("plain left 1 1 3;", 3, 15);
        newRefuses("pen 8 0;", 3, 4);
        newRefuses("pen 0 8;", 3, 6);
        newRefuses("run 8;", 3, 4);
        newRefuses("fold 4 4;", 3, 5);
        newRefuses("fold 0 3;", 3, 7);
        newRefuses("fold 0 8;", 3, 7);
        newRefuses("wed 4 4;", 3, 4);
        newRefuses("wed 0 3;", 3, 6);
        newRefuses("wed 0 8;", 3, 6);
        newRefuses("pen 0 0;pen 0 %", 4, 12);
        newRefuses("run 7;run 7%", 4, 10);
        newRefuses("fold 0 4;fold 1 4;fold 0 5;fold 0 4;", 4, 34);
        newRefuses("wed 0 4;wed 0 9", 4, 12);
        newRefuses("wed 0 4;wed 1 4", 4, 14);
        String lefts = "vain left 1 1 1;vain left 1 1 1;vain left 1 1 1;vain left 1 1 1;";
        newRefuses(lefts + "vain left %", 5, 69);
        newRefuses(lefts.replace("left", "right") + "vain right 99", 5, 73);
        newRefuses("run 0;", 6, 6);
        newRefuses("run 0;  ", 6, 8);
        newRefuses("plain left 1 1 1;pen 0 1;", 6, 25);
        newRefuses("plain left 1 1 1;pen 1 0;", 6, 25);
        newRefuses("plain left 1 1 1;fold 0 4;", 6, 26);
        newRefuses("plain right 1 1 1;fold 0 4;", 6, 27);
        newRefuses("plain left 1 1 1;wed 0 4;", 6, 25);
        newRefuses("plain right 1 1 1;wed 0 4;", 6, 26);
        newRefuses("run 0;clerk", 2, 6);
    }

    private void textRefusedChangesNothing() {
        fresh(TOWN);
        x.see(0, 0, 1);
        x.keep(0);
        x.years(2);
        refused("vain left 1 1 1;run 0;x", 2, 22);
        is("LEFTS stay", x.rule(0), 3);
        is("KIND stays", x.hand(0, 0), 0);
        is("RUN stays", x.rule(2), 1);
        is("YEAR stays", x.rule(4), 2);
        is("SEEN stays", x.count(0), 1);
        is("IMAGE stays", x.back(0), 0);
    }

    private void fault() {
        x = new HandMarket();
        refused("run 9;", 3, 4);
        x.feed('x');
        is("the latest text's", x.fault(), 3);
        x.end(0);
        is("a sound text", x.text(), 0);
        is("no fault", x.fault(), 0);
    }

    private void rule() {
        fresh(TOWN);
        x.run(5, true);
        x.years(4);
        is("rule -1", x.rule(-1), BAD);
        is("rule 0", x.rule(0), 3);
        is("rule 1", x.rule(1), 2);
        is("rule 2", x.rule(2), 33);
        is("rule 3", x.rule(3), 17);
        is("rule 4", x.rule(4), 4);
        is("rule 5", x.rule(5), BAD);
    }

    private void hand() {
        fresh(TOWN);
        int[] first = {0, 3, 7, 0, 4, 4, 0};
        int[] third = {1, 4, 4, 2, 2, NONE, 32};
        int[] fifth = {3, 8, 8, 1, 5, NONE, 4};
        for (int what = 0; what <= 6; what++) {
            is("hand 0 " + what, x.hand(0, what), first[what]);
            is("hand 2 " + what, x.hand(2, what), third[what]);
            is("hand 5 " + what, x.hand(5, what), fifth[what]);
            is("hand 3 " + what, x.hand(3, what), BAD);
            is("hand 6 " + what, x.hand(6, what), BAD);
            is("hand -1 " + what, x.hand(-1, what), BAD);
            is("hand 8 " + what, x.hand(8, what), BAD);
        }
        is("hand 4 5", x.hand(4, 5), 0);
        is("hand 0 -1", x.hand(0, -1), BAD);
        is("hand 0 7", x.hand(0, 7), BAD);
    }

    private void showsAll(int a, int loops, int bars, int lean) {
        is("page " + a + " 0", x.page(a, 0), loops);
        is("page " + a + " 1", x.page(a, 1), bars);
        is("page " + a + " 2", x.page(a, 2), lean);
    }

    private void page() {
        fresh(TOWN);
        showsAll(0, 5, 3, 1);
        showsAll(1, 5, 3, 1);
        showsAll(2, 4, 4, 2);
        showsAll(4, 2, 5, 1);
        showsAll(5, 8, 8, 1);
        showsAll(3, BAD, BAD, BAD);
        showsAll(6, BAD, BAD, BAD);
        showsAll(-1, BAD, BAD, BAD);
        is("page 0 -1", x.page(0, -1), BAD);
        is("page 0 3", x.page(0, 3), BAD);
        x.run(1, true);
        showsAll(1, 5, 3, 1);
        showsAll(2, 6, 2, 2);
        x.run(0, false);
        showsAll(0, 2, 5, 1);
        showsAll(1, 6, 2, 1);
        x.run(2, true);
        x.run(5, true);
        showsAll(2, 6, 2, 2);
        showsAll(5, 8, 8, 1);
        fresh("vain left 1 1 0;vain left 9 9 0;vain left 5 5 0;vain left 7 0 0;vain right 3 3 0;run 3;");
        showsAll(3, 7, 0, 0);
        showsAll(4, 3, 3, 0);
    }

    private void likes() {
        fresh(TOWN);
        is("plain", x.likes(0, 4), 17);
        is("plain of another", x.likes(0, 5), 14);
        is("vain", x.likes(1, 4), 7);
        is("vain of another", x.likes(1, 5), 16);
        is("taught, another LEAN", x.likes(2, 4), 17);
        is("FOLDED too", x.likes(2, 5), 12);
        is("taught, its LEAN", x.likes(4, 0), 18);
        is("trembler", x.likes(5, 2), 12);
        is("its own side", x.likes(0, 1), BAD);
        is("itself", x.likes(4, 4), BAD);
        is("no such left", x.likes(3, 4), BAD);
        is("no such right", x.likes(0, 6), BAD);
        is("below", x.likes(-1, 4), BAD);
        is("above", x.likes(0, 8), BAD);
    }

    private void rather() {
        fresh(TOWN);
        is("0's first", x.rather(0, 0), 4);
        is("0's second", x.rather(0, 1), 5);
        is("0's third", x.rather(0, 2), NONE);
        is("1's first", x.rather(1, 0), 5);
        is("1's second", x.rather(1, 1), 4);
        is("2's first", x.rather(2, 0), 4);
        is("2 is FOLDED with 5", x.rather(2, 1), NONE);
        is("4's first, as many LIKES", x.rather(4, 0), 0);
        is("4's second", x.rather(4, 1), 1);
        is("4's third", x.rather(4, 2), 2);
        is("5's second", x.rather(5, 1), 1);
        is("5 is FOLDED with 2", x.rather(5, 2), NONE);
        is("k below 0", x.rather(0, -1), BAD);
        is("no such HAND", x.rather(3, 0), BAD);
        is("no such HAND, k far", x.rather(7, 99), BAD);
        is("k far", x.rather(0, Integer.MAX_VALUE), NONE);
    }

    private void alterTo(int a, int what, int v, int want) {
        is("alter " + a + " " + what + " " + v, x.alter(a, what, v), want);
    }

    private void alter() {
        fresh(TOWN);
        alterTo(0, 0, 0, 0);
        alterTo(0, 3, 0, 0);
        alterTo(0, 0, 3, 0);
        alterTo(0, 0, 4, BAD);
        alterTo(0, 0, -1, BAD);
        alterTo(0, 1, 9, 3);
        alterTo(0, 1, 10, BAD);
        alterTo(0, 1, -1, BAD);
        alterTo(0, 2, 0, 7);
        alterTo(0, 2, 10, BAD);
        alterTo(0, 3, 2, 0);
        alterTo(0, 3, 3, BAD);
        alterTo(0, 4, 5, 4);
        alterTo(0, 4, 3, BAD);
        alterTo(0, 4, 6, BAD);
        alterTo(0, 4, -1, BAD);
        alterTo(0, 5, 0, BAD);
        alterTo(0, -1, 0, BAD);
        alterTo(3, 0, 0, BAD);
        alterTo(8, 1, 1, BAD);
        int[] now = {3, 9, 0, 2, 5};
        for (int what = 0; what <= 4; what++) {
            is("altered " + what, x.hand(0, what), now[what]);
        }
    }

    private void run() {
        fresh(TOWN);
        is("was RUN", x.run(0, true), 1);
        is("is no more", x.run(0, false), 1);
        is("was not", x.run(0, false), 0);
        is("5 is", x.run(5, true), 0);
        is("no such HAND", x.run(3, true), BAD);
        is("above", x.run(40, true), BAD);
        is("below", x.run(-1, true), BAD);
        is("bits", x.rule(2), 32);
    }

    private void fold() {
        fresh(TOWN);
        is("were", x.fold(2, 5, true), 1);
        is("no more", x.fold(2, 5, false), 1);
        is("were not", x.fold(2, 5, false), 0);
        is("those who are WED", x.fold(0, 4, true), 0);
        is("they stay WED", x.hand(0, 5), 4);
        is("bits of 0", x.hand(0, 6), 16);
        is("bits of 4", x.hand(4, 6), 1);
        is("a RIGHT first", x.fold(4, 0, true), BAD);
        is("two LEFTS", x.fold(0, 1, true), BAD);
        is("no such LEFT", x.fold(3, 4, true), BAD);
        is("no such RIGHT", x.fold(0, 6, true), BAD);
        is("below", x.fold(-1, 4, true), BAD);
    }

    private void wed() {
        fresh(TOWN);
        is("LEFT is WED", x.wed(0, 5), STATE);
        is("RIGHT is WED", x.wed(1, 4), STATE);
        is("FOLDED", x.wed(2, 5), STATE);
        is("1 and 5", x.wed(1, 5), 2);
        is("bits", x.rule(3), 51);
        is("a RIGHT first", x.wed(5, 1), BAD);
        is("no such LEFT", x.wed(3, 4), BAD);
        is("no such RIGHT", x.wed(2, 6), BAD);
        is("below", x.wed(-1, 5), BAD);
        is("how many", x.count(4), 2);
    }

    private void part() {
        fresh(TOWN);
        is("not WED", x.part(1), STATE);
        is("a RIGHT", x.part(4), 0);
        is("not any more", x.part(0), STATE);
        is("no such HAND", x.part(3), BAD);
        is("below", x.part(-1), BAD);
        is("bits", x.rule(3), 0);
        is("again", x.wed(0, 4), 1);
        is("a LEFT", x.part(0), 4);
    }

    private void askedOf(int a, int byLefts, int byRights) {
        is("asked 0 " + a, x.asked(0, a), byLefts);
        is("asked 1 " + a, x.asked(1, a), byRights);
    }

    private void asked() {
        fresh(RING);
        askedOf(0, 4, 5);
        askedOf(1, 5, 4);
        askedOf(4, 0, 1);
        askedOf(5, 1, 0);
        askedOf(2, BAD, BAD);
        askedOf(6, BAD, BAD);
        askedOf(-1, BAD, BAD);
        is("side -1", x.asked(-1, 0), BAD);
        is("side 2", x.asked(2, 0), BAD);
        fresh(RIVALS);
        askedOf(0, NONE, NONE);
        askedOf(1, 4, 4);
        x.fold(1, 4, true);
        askedOf(0, 4, 4);
        askedOf(1, NONE, NONE);
    }

    private void sum() {
        fresh(RING);
        is("sum 0", x.sum(0), 2);
        is("sum 1", x.sum(1), 68);
        is("sum 2", x.sum(2), 2);
        is("sum 3", x.sum(3), 44);
        is("sum -1", x.sum(-1), BAD);
        is("sum 4", x.sum(4), BAD);
        fresh("vain left 0 0 0;vain right 0 0 0;");
        is("a pair of no LIKES", x.sum(0), 1);
        is("its LIKES", x.sum(1), 0);
    }

    private void hold() {
        fresh(RING);
        is("hold 0", x.hold(0), 2);
        for (int a : new int[] {0, 1, 4, 5}) {
            is("hold of " + a, x.hold(10 + a), 1);
        }
        for (int what : new int[] {-1, 1, 4, 9, 12, 13, 16, 17, 18, Integer.MIN_VALUE}) {
            is("hold " + what, x.hold(what), BAD);
        }
        fresh(RIVALS);
        is("one holds", x.hold(0), 1);
        is("who is with nobody in all", x.hold(10), 1);
        x.fold(0, 4, true);
        x.fold(1, 4, true);
        is("nobody with anybody", x.hold(0), 1);
    }

    private void most() {
        fresh(RING);
        is("most 0", x.most(0), 68);
        is("most 10", x.most(10), 4);
        is("most 11", x.most(11), 5);
        for (int what : new int[] {-1, 1, 9, 12, 13, 14, 15, 18, Integer.MIN_VALUE}) {
            is("most " + what, x.most(what), BAD);
        }
        x.fold(0, 4, true);
        is("not FOLDED", x.most(0), 44);
        is("0 with the other", x.most(10), 5);
        fresh("plain left 5 5 0;plain left 5 5 0;plain right 5 5 0;");
        is("as many", x.most(0), 40);
        is("nobody is ahead", x.most(10), NONE);
        is("so the second", x.most(11), 4);
        fresh("plain left 5 5 0;plain right 5 5 0;plain right 5 5 0;");
        is("the lesser RIGHT", x.most(10), 4);
        fresh("vain left 0 0 0;vain right 0 0 0;");
        is("no LIKES", x.most(0), 0);
        is("nobody, as no LIKES are more", x.most(10), NONE);
        fresh("vain left 0 0 0;vain left 0 0 0;vain right 9 0 0;plain right 0 9 0;pen 5 4;");
        is("both", x.most(0), 9 + 9 + 11);
        is("0", x.most(10), 4);
        is("1", x.most(11), 5);
    }

    private void quarrel() {
        fresh(RING);
        is("none is WED", x.quarrel(0), 4);
        is("the first", x.quarrel(1), 4);
        x.wed(0, 4);
        is("one WED", x.quarrel(0), 2);
        is("the first of two", x.quarrel(1), 14);
        x.wed(1, 5);
        is("they HOLD", x.quarrel(0), 0);
        is("no first", x.quarrel(1), NONE);
        is("quarrel -1", x.quarrel(-1), BAD);
        is("quarrel 2", x.quarrel(2), BAD);
        fresh("plain left 5 5 0;plain right 5 5 0;plain right 0 0 0;fold 0 4;wed 0 4;");
        is("FOLDED and WED: anybody rather", x.quarrel(0), 1);
        is("with the other", x.quarrel(1), 5);
    }

    private void alone() {
        fresh(TOWN);
        is("2", x.alone(), 4);
        fresh(RIVALS);
        is("0", x.alone(), 1);
        x.fold(1, 4, true);
        x.fold(0, 4, true);
        is("all", x.alone(), 19);
    }

    private void years() {
        fresh("plain left 0 3 0;plain right 9 2 0;plain left 4 4 0;wed 0 4;");
        is("-1", x.years(-1), BAD);
        is("21", x.years(21), BAD);
        is("none", x.years(0), 0);
        is("one", x.years(1), 1);
        is("LOOPS of the lesser", x.hand(0, 1), 1);
        is("LOOPS of the greater", x.hand(4, 1), 8);
        is("BARS of the greater", x.hand(0, 2), 3);
        is("BARS of the lesser", x.hand(4, 2), 3);
        is("three more", x.years(3), 4);
        is("LOOPS 4", x.hand(0, 1), 4);
        is("LOOPS 5", x.hand(4, 1), 5);
        is("one more", x.years(1), 5);
        is("the lesser as the greater", x.hand(0, 1), 5);
        is("the greater stays", x.hand(4, 1), 5);
        is("who is not WED", x.hand(1, 1), 4);
        for (int i = 1; i < 50; i++) {
            x.years(20);
        }
        is("985", x.rule(4), 985);
        is("1000", x.years(15), FULL);
        is("1005", x.years(20), FULL);
        is("wrong first", x.years(21), BAD);
        is("999", x.years(14), 999);
        is("one above", x.years(1), FULL);
        is("none more", x.years(0), 999);
    }

    private void alike() {
        fresh("plain left 0 3 0;plain right 9 2 0;plain left 4 4 0;plain right 4 3 0;wed 0 4;wed 1 5;");
        is("9 unlike", x.alike(), 5);
        is("nothing has changed", x.rule(4), 0);
        is("LOOPS stay", x.hand(0, 1), 0);
        x.years(1);
        is("one YEAR less", x.alike(), 4);
        x.part(0);
        is("each two by themselves", x.alike(), 0);
        x.part(1);
        is("none WED", x.alike(), 0);
    }

    private void near() {
        fresh(TOWN);
        is("near 0", x.near(0), 4);
        is("near 1", x.near(1), 3);
        is("near -1", x.near(-1), BAD);
        is("near 2", x.near(2), BAD);
        fresh("plain left 0 0 0;plain right 5 5 0;plain right 0 9 1;plain right 9 5 0;");
        is("of one side, of several the least", x.near(0), 46);
        is("4 unlike", x.near(1), 4);
        fresh("plain left 0 0 0;plain left 2 0 0;plain right 0 2 1;");
        is("of several the least", x.near(0), 1);
        fresh("plain right 5 5 0;");
        is("no two", x.near(0), NONE);
        is("no two, how unlike", x.near(1), NONE);
        is("wrong first", x.near(2), BAD);
    }

    private void forge() {
        fresh(RIVALS);
        is("forge 0 0", x.forge(0, 0), 1);
        is("forge 0 1", x.forge(0, 1), 4);
        is("the first of several", x.forge(1, 0), 1);
        is("with whom", x.forge(1, 1), 4);
        is("a RIGHT", x.forge(4, 0), 0);
        is("a RIGHT's", x.forge(4, 1), 1);
        is("what -1", x.forge(0, -1), BAD);
        is("what 2", x.forge(0, 2), BAD);
        is("no such HAND", x.forge(2, 0), BAD);
        is("nothing has changed", x.hand(0, 4), 0);
        x.fold(0, 4, true);
        is("nobody by any PEN: the first", x.forge(0, 0), 0);
        is("with nobody", x.forge(0, 1), NONE);
        fresh("plain right 1 1 1;");
        is("the first HAND is a RIGHT", x.forge(4, 0), 4);
        is("a RIGHT with nobody", x.forge(4, 1), NONE);
        fresh("vain left 0 0 0;plain left 9 9 0;vain right 0 0 0;fold 1 4;");
        is("somebody with no LIKES is more than nobody", x.forge(0, 1), 4);
    }

    private void swap() {
        fresh("plain left 0 0 0;plain right 9 9 0;");
        is("swap 0", x.swap(0), 4);
        is("swap 1", x.swap(1), 40);
        is("swap -1", x.swap(-1), BAD);
        is("swap 2", x.swap(2), BAD);
        is("nothing has changed", x.sum(1), 4);
        fresh(RIVALS);
        is("none is more", x.swap(0), NONE);
        is("none, LIKES", x.swap(1), NONE);
        fresh("vain left 9 0 0;vain right 0 0 0;vain right 0 5 0;vain right 9 0 0;fold 0 6;");
        is("of as many the least", x.swap(0), 46);
        is("its LIKES", x.swap(1), 18);
    }

    private void meanIs(int v, long top, long bottom) {
        is("mean " + v + " 0", x.mean(v, 0), top);
        is("mean " + v + " 1", x.mean(v, 1), bottom);
    }

    private void mean() {
        fresh("plain left 0 0 0;plain right 9 9 0;");
        meanIs(0, 1, 1);
        meanIs(3, 49, 100);
        meanIs(5, 1, 4);
        meanIs(10, 0, 1);
        meanIs(-1, BAD, BAD);
        meanIs(11, BAD, BAD);
        is("what -1", x.mean(5, -1), BAD);
        is("what 2", x.mean(5, 2), BAD);
        fresh(RIVALS);
        meanIs(1, 891, 1000);
        fresh("plain left 0 0 0;plain left 0 0 0;");
        meanIs(1, 0, 1);
        fresh(RING);
        meanIs(0, 2, 1);
        // the lesser of two LEFTS and two RIGHTS that are left: 9 of 16 have one, 1 of 16 a second
        meanIs(5, 5, 8);
    }

    private void luckIs(int v, int a, long top, long bottom) {
        is("luck " + v + " " + a + " 0", x.luck(v, a, 0), top);
        is("luck " + v + " " + a + " 1", x.luck(v, a, 1), bottom);
    }

    private void luck() {
        fresh(RIVALS);
        luckIs(1, 1, 81, 100);
        luckIs(1, 0, 81, 1000);
        luckIs(1, 4, 891, 1000);
        luckIs(0, 0, 0, 1);
        luckIs(0, 4, 1, 1);
        luckIs(10, 1, 0, 1);
        luckIs(11, 1, BAD, BAD);
        luckIs(-1, 1, BAD, BAD);
        luckIs(1, 2, BAD, BAD);
        luckIs(1, 5, BAD, BAD);
        is("what -1", x.luck(1, 1, -1), BAD);
        is("what 2", x.luck(1, 1, 2), BAD);
        // RUN makes 0 and 1 show 2 2; were it undone by theft, 4 would rather have 2 than 0
        fresh("plain left 0 0 0;plain left 5 5 0;plain left 3 3 0;plain right 2 2 0;run 0;");
        luckIs(5, 0, 1, 4);
        luckIs(5, 1, 1, 8);
        luckIs(5, 2, 1, 16);
    }

    private void see() {
        fresh(TOWN);
        is("no such HAND", x.see(3, 0, 0), BAD);
        is("what -1", x.see(0, -1, 0), BAD);
        is("what 3", x.see(0, 3, 0), BAD);
        is("v -1", x.see(0, 0, -1), BAD);
        is("v 10", x.see(0, 0, 10), BAD);
        is("none yet", x.count(0), 0);
        is("LEAN may be 9", x.see(0, 2, 9), 1);
        for (int i = 2; i <= 6; i++) {
            is("see " + i, x.see(5, 0, 0), i);
        }
        is("7th", x.see(5, 0, 0), FULL);
        is("7th, wrong", x.see(3, 0, 0), BAD);
        is("six", x.count(0), 6);
    }

    private void forget() {
        fresh(TOWN);
        is("of none", x.forget(0), 0);
        is("more than none", x.forget(1), BAD);
        x.see(5, 0, 8);
        x.see(5, 0, 7);
        is("none FITS", x.fits(5), 0);
        is("forget -1", x.forget(-1), BAD);
        is("forget 3", x.forget(3), BAD);
        is("all stay", x.forget(2), 2);
        is("the first stays", x.forget(1), 2);
        is("it FITS", x.fits(5), 32);
        is("one", x.count(0), 1);
        is("none stays", x.forget(0), 1);
        is("all FIT", x.fits(5), 55);
    }

    private void fits() {
        fresh(TOWN);
        is("all", x.fits(0), 55);
        is("no such HAND", x.fits(3), BAD);
        is("below", x.fits(-1), BAD);
        x.see(5, 2, 1);
        is("LEAN 1", x.fits(5), 50);
        x.see(5, 1, 8);
        is("and BARS 8", x.fits(5), 32);
        is("of another all", x.fits(4), 55);
        // beside the PEN of 1, which has 9 LOOPS: 6, 9, 6, 5, 8
        x.see(0, 0, 6);
        is("a PAGE that has RUN", x.fits(0), 5);
    }

    private void look() {
        fresh(TOWN);
        // LOOPS 3 9 4 2 8; BARS 7 1 4 5 8; LEAN 0 1 2 1 1
        is("look 5 0", x.look(5, 0), 0);
        is("look 5 1", x.look(5, 1), 1);
        // LOOPS with those of 1: 6 9 6 5 8; BARS: 4 1 2 3 4
        is("look 0 0", x.look(0, 0), 0);
        is("look 0 1", x.look(0, 1), 2);
        is("no such HAND", x.look(3, 0), BAD);
        is("what -1", x.look(0, -1), BAD);
        is("what 2", x.look(0, 2), BAD);
        x.see(0, 0, 6);
        is("BARS next", x.look(0, 0), 1);
        is("one is left", x.look(0, 1), 1);
        x.see(0, 1, 4);
        is("one FITS, nothing to look at", x.look(0, 0), NONE);
        is("nor how many", x.look(0, 1), NONE);
        fresh("vain left 1 1 0;vain left 1 1 2;");
        is("LEAN alone", x.look(0, 0), 2);
        fresh("vain left 1 1 0;vain left 1 1 0;");
        is("all alike", x.look(0, 0), NONE);
        is("all alike, how many", x.look(0, 1), NONE);
    }

    private void drift() {
        fresh("plain left 0 0 0;plain right 9 9 0;plain right 0 0 0;");
        // by seed 1 are drawn 16838, 5758 (5's PEN is 4), 10113, 17515 (0's PEN is 4)
        is("one", x.drift(1, 1, 0), 1);
        is("one, LIKES", x.drift(1, 1, 1), 4);
        is("two, LIKES", x.drift(1, 2, 1), 26);
        is("nothing has changed", x.hand(5, 4), 5);
        is("n 0", x.drift(1, 0, 0), BAD);
        is("n 61", x.drift(1, 61, 0), BAD);
        is("n 60", x.drift(1, 60, 0), 1);
        is("what -1", x.drift(1, 1, -1), BAD);
        is("what 2", x.drift(1, 1, 2), BAD);
        fresh("vain left 1 1 1;");
        is("one HAND", x.drift(1, 1, 0), 0);
        x = new HandMarket();
        is("no HANDS", x.drift(1, 1, 0), STATE);
        is("wrong first", x.drift(1, 0, 0), BAD);
    }

    private void keepAndBack() {
        fresh(TOWN);
        is("keep -1", x.keep(-1), BAD);
        is("keep 2", x.keep(2), BAD);
        is("back -1", x.back(-1), BAD);
        is("back 2", x.back(2), BAD);
        is("no IMAGE", x.back(0), STATE);
        is("keep 0", x.keep(0), 0);
        is("IMAGES", x.count(1), 1);
        is("the other one is none", x.back(1), STATE);
        x.years(7);
        x.alter(1, 0, 0);
        x.alter(1, 3, 0);
        x.alter(1, 4, 5);
        x.run(0, false);
        x.fold(2, 5, false);
        x.part(0);
        x.see(1, 0, 0);
        is("keep 1", x.keep(1), 0);
        is("back 0", x.back(0), 0);
        is("LOOPS", x.hand(0, 1), 3);
        is("BARS", x.hand(0, 2), 7);
        is("KIND", x.hand(1, 0), 2);
        is("LEAN", x.hand(1, 3), 1);
        is("PEN", x.hand(1, 4), 1);
        is("RUN", x.rule(2), 1);
        is("FOLDED", x.hand(2, 6), 32);
        is("WED", x.rule(3), 17);
        is("YEAR", x.rule(4), 0);
        is("SEEN stays", x.count(0), 1);
        is("back 1", x.back(1), 7);
        is("its LOOPS", x.hand(4, 1), 3);
        is("its PEN", x.hand(1, 4), 5);
        is("its WED", x.rule(3), 0);
        x.alter(1, 4, 4);
        is("an IMAGE is not what there is", x.back(1), 7);
        is("so it has its PEN", x.hand(1, 4), 5);
        is("kept again", x.keep(0), 1);
        is("the newer one", x.back(0), 7);
        is("two IMAGES", x.count(1), 2);
    }

    private void sheet() {
        x = new HandMarket();
        is("k -1", x.sheet(-1, 0, 0), BAD);
        is("k 4", x.sheet(4, 0, 0), BAD);
        is("lane -1", x.sheet(0, -1, 0), BAD);
        is("lane 3", x.sheet(0, 3, 0), BAD);
        is("n 41", x.sheet(0, 0, 41), BAD);
        is("n -1", x.sheet(0, 0, -1), -14);
        is("n least", x.sheet(0, 0, Integer.MIN_VALUE), -14);
        is("wrong k first", x.sheet(4, 0, -1), BAD);
        is("wrong lane first", x.sheet(0, 3, -1), BAD);
        is("nothing yet", x.count(3), NONE);
        is("0 CELLS", x.sheet(0, 2, 0), 1);
        is("0 of them", x.count(3), 0);
        is("40 CELLS", x.sheet(0, 1, 40), 1);
        is("40 of them", x.count(3), 40);
        x.sheet(0, 1, -1);
        is("a refused one leaves it", x.count(3), 40);
        fresh("vain left 1 1 1;vain right 1 1 1;");
        x.sheet(3, 0, 2);
        x.lay(3, 0, 4);
        x.lay(3, 1, 7);
        is("laid", x.read(3, 0, 0, 1), -20);
        x.sheet(3, 0, 2);
        is("a new row is 0", x.read(3, 0, 0, 1), 1);
        is("so is the PEN", x.hand(0, 4), 0);
    }

    private void lay() {
        fresh("vain left 1 1 1;vain right 1 1 1;");
        is("k -1", x.lay(-1, 0, 0), BAD);
        is("k 4", x.lay(4, 0, 0), BAD);
        is("nothing", x.lay(2, -1, 0), -11);
        for (int lane = 0; lane < 3; lane++) {
            x.sheet(lane, lane, 2);
            is("i -1", x.lay(lane, -1, 0), -12);
            is("i 2", x.lay(lane, 2, 0), -12);
            is("i 0", x.lay(lane, 0, 0), 1);
        }
        is("a BYTE's lowest bits", x.lay(0, 1, 256 + 4), 1);
        is("are read", x.read(0, 0, 0, 1), 1);
        is("a BYTE's highest", x.lay(0, 1, 128 + 4), 1);
        is("is below 0", x.read(0, 0, 0, 1), -20);
        is("a SHORT's lowest bits", x.lay(1, 1, (1 << 20) + 4), 1);
        is("are read as well", x.read(1, 1, 0, 1), 1);
        is("a SHORT", x.lay(1, 1, 256 + 4), 1);
        is("keeps 256", x.read(1, 1, 0, 1), -20);
        is("an INT", x.lay(2, 1, (1 << 20) + 4), 1);
        is("keeps all", x.read(2, 2, 0, 1), -20);
        is("a CELL of none", x.sheet(3, 0, 0), 1);
        is("i 0 of 0", x.lay(3, 0, 0), -12);
    }

    private void layAll(int k, int... cells) {
        for (int i = 0; i < cells.length; i++) {
            x.lay(k, i, cells[i]);
        }
    }

    private void read() {
        fresh("vain left 1 1 1;vain right 1 1 1;vain right 2 2 2;");
        x.sheet(1, 1, 7);
        layAll(1, 9, 0, 4, 4, 5, 0, 5);
        is("k -1", x.read(-1, 1, 1, 1), BAD);
        is("k 4", x.read(4, 1, 1, 1), BAD);
        is("lane -1", x.read(1, -1, 1, 1), BAD);
        is("lane 3", x.read(1, 3, 1, 1), BAD);
        is("n -1", x.read(1, 1, 1, -1), BAD);
        is("n 21", x.read(1, 1, 1, 21), BAD);
        is("two, from 1 on", x.read(1, 1, 1, 2), 2);
        is("0's PEN", x.hand(0, 4), 4);
        is("4's PEN", x.hand(4, 4), 5);
        is("the later one stands", x.read(1, 1, 1, 3), 3);
        is("0's PEN is 5", x.hand(0, 4), 5);
        x.alter(0, 4, 0);
        x.alter(4, 4, 4);
        is("behind the row's end", x.read(1, 1, 1, 20), 3);
        is("those ahead are", x.hand(0, 4), 5);
        is("the first is BAD", x.read(1, 1, 0, 1), -20);
        is("half of one, be it BAD", x.read(1, 1, 6, 1), 0);
        x.lay(1, 5, 1);
        x.alter(0, 4, 0);
        is("the third is BAD", x.read(1, 1, 1, 20), -22);
        is("then none was", x.hand(0, 4), 0);
        layAll(1, 9, 0, 4, 4, 6, 0, 5);
        is("a PEN that there is not", x.read(1, 1, 1, 3), -21);
        is("none read", x.read(1, 1, 0, 0), 0);
        is("none of nothing", x.read(2, 1, 0, 0), 0);
        x.sheet(0, 2, 40);
        is("twenty", x.read(0, 2, 0, 20), 20);
        is("f far", x.read(0, 2, Integer.MAX_VALUE, 1), 0);
        is("f below", x.read(0, 2, Integer.MIN_VALUE, 20), 0);
    }

    private void torn() {
        fresh("vain left 1 1 1;vain right 1 1 1;");
        x.sheet(1, 1, 3);
        layAll(1, 0, 4, 9);
        is("whole", x.read(1, 1, 0, 1), 1);
        is("0", x.torn(), 0);
        is("INDEX", x.read(1, 1, 0, 2), 1);
        is("2", x.torn(), 2);
        x.read(1, 1, 1, 1);
        is("one that was BAD does not count", x.torn(), 2);
        x.read(1, 1, 0, 21);
        is("nor one that was refused", x.torn(), 2);
        is("CAST", x.read(1, 0, 0, 1), 0);
        is("3", x.torn(), 3);
        is("CAST is ahead of INDEX", x.read(1, 2, -1, 1), 0);
        is("3 again", x.torn(), 3);
        is("NULL", x.read(0, 0, -1, 1), 0);
        is("1", x.torn(), 1);
        is("INDEX below", x.read(1, 1, -1, 1), 0);
        is("2 again", x.torn(), 2);
        is("nothing read", x.read(1, 1, 0, 0), 0);
        is("0 again", x.torn(), 0);
    }

    private void count() {
        fresh(TOWN);
        x.see(0, 0, 0);
        x.keep(1);
        x.feed('x');
        x.feed('x');
        x.sheet(0, 0, 7);
        x.fold(1, 5, true);
        x.fold(1, 4, true);
        int[] want = {1, 1, 2, 7, 1, 3};
        for (int what = 0; what < 6; what++) {
            is("count " + what, x.count(what), want[what]);
        }
        is("count -1", x.count(-1), BAD);
        is("count 6", x.count(6), BAD);
    }
}
