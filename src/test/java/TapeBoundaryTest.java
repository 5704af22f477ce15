/** THE TAPE, TOKENS, FAULTS and promises 2 to 5 at their boundaries. */
public final class TapeBoundaryTest extends Boundary {
    /** A LEFT and a RIGHT, of whom other lines may tell. */
    private static final String BOTH = "plain left 1 2 0;plain right 3 4 0;";
    private static final String ALL = "vain left 1 1 1;".repeat(4) + "vain right 1 1 1;".repeat(4);
    private static final String[] LINES = {
        "plain left 1 2 0 ;", "taught right 9 9 2 ;", "pen 0 4 ;", "run 0 ;", "fold 0 4 ;", "wed 0 4 ;"};

    public static void main(String[] args) {
        new TapeBoundaryTest().runAll();
    }

    // ---- promises 2 and 3

    @Sentence("A byte (0 to 127) comes behind THE TAPE: how many it has.")
    void bytesAreFrom0To127() {
        is("feed 0", x.feed(0), 1);
        is("feed 1", x.feed(1), 2);
        is("feed 126", x.feed(126), 3);
        is("feed 127", x.feed(127), 4);
        is("feed -1", x.feed(-1), BAD);
        is("feed 128", x.feed(128), BAD);
        is("four bytes", x.count(2), 4);
        is("a byte behind them", x.feed('a'), 5);
        rich();
        badBeyond("feed(#)", 0, 127, (m, c) -> m.feed(c));
        // each would be a letter, were its lowest bits alone taken
        badFor("feed(#)", (m, c) -> m.feed(c), 256 + 'a', -256 + 'a', 65536 + ';');
    }

    @Sentence("BAD; FULL: more than 160.")
    void noMoreThan160Bytes() {
        String text = " ".repeat(143) + "plain left 1 2 0;";
        for (int i = 0; i < 160; i++) {
            is("feed to " + (i + 1), x.feed(text.charAt(i)), i + 1);
        }
        is("161st", x.feed(';'), FULL);
        is("161st, and no byte", x.feed(128), BAD);
        is("161st, and below", x.feed(-1), BAD);
        is("160 bytes", x.count(2), 160);
        is("they are told as they were", x.text(), 1);
        is("LOOPS", x.hand(0, 1), 1);
        is("there is room then", x.feed(';'), 1);
        fresh(m -> feedAll(m, text));
        refused("feed on 160 bytes", FULL, m -> m.feed('%'));
        fresh(m -> feedAll(m, text.substring(1)));
        is("on 159 bytes", x.feed(' '), 160);
        is("the next", x.feed(' '), FULL);
        x.end(159);
        is("where one was cut", x.feed(' '), 160);
    }

    @Sentence("THE TAPE keeps its first n bytes: how many it had. BAD.")
    void keepsNoMoreBytesThanThereAre() {
        is("0 of none", x.end(0), 0);
        refused("1 of none", BAD, m -> m.end(1));
        refused("-1 of none", BAD, m -> m.end(-1));
        fresh(m -> feedAll(m, "run 0;%%"));
        badBeyond("end(#) of 8", 0, 8, (m, n) -> m.end(n));
        is("all 8", x.end(8), 8);
        is("all but one", x.end(7), 8);
        is("all but one more", x.end(6), 7);
        is("6 are left", x.count(2), 6);
        is("a byte behind these", x.feed(' '), 7);
        is("nothing of those that were cut is read", x.text(), -17);
        is("its fault", x.fault(), 6);
        feedAll(x, "run");
        is("1 of 3", x.end(1), 3);
        is("0 of 1", x.end(0), 1);
        is("nothing is left", x.text(), 0);
    }

    @Sentence("THE TAPE keeps its first n bytes: how many it had. BAD.")
    void keepsUpTo160Bytes() {
        fresh(m -> feedAll(m, " ".repeat(160)));
        badBeyond("end(#) of 160", 0, 160, (m, n) -> m.end(n));
        is("160 of 160", x.end(160), 160);
        is("159 of 160", x.end(159), 160);
        is("160 of 159", x.end(160), BAD);
        is("0 of 159", x.end(0), 159);
        is("0 of 0", x.end(0), 0);
    }

    // ---- the text

    @Sentence("THE TAPE has 160 bytes, places from 0.")
    void placesAreFrom0To160() {
        faulty("%", 1, 0);
        faulty(" %", 1, 1);
        faulty(" ".repeat(158) + "%", 1, 158);
        faulty(" ".repeat(159) + "%", 1, 159);
        faulty(" ".repeat(156) + "run;", 2, 159);
        faulty(" ".repeat(157) + "run", 2, 160);
        faulty("run" + " ".repeat(157), 2, 160);
        faulty(" ".repeat(154) + "run 0;", 6, 160);
        taken(" ".repeat(160), 0);
        taken(BOTH + " ".repeat(160 - BOTH.length() - 6) + "run 0;", 3);
        is("the last line is told", x.rule(2), 1);
    }

    @Sentence("TOKENS, each as long as may be, blanks (32) between: NAMES (a .. z), NUMBERS (1 or 2 figures), one ; .")
    void bytesOfTokens() {
        // what is a TOKEN that can't begin a line is FAULT 2, what is none is FAULT 1
        for (int c = 0; c < 128; c++) {
            String one = String.valueOf((char) c);
            boolean letter = c >= 'a' && c <= 'z';
            boolean figure = c >= '0' && c <= '9';
            if (c == ' ') {
                taken(one, 0);
                faulty("run" + one, 2, 4);
                continue;
            }
            faulty(one, letter || figure || c == ';' ? 2 : 1, 0);
            if (letter) {
                faulty("run" + one, 2, 0);
            } else if (figure) {
                faulty("run" + one, c <= '7' ? 2 : 3, c <= '7' ? 4 : 3);
            } else {
                faulty("run" + one, c == ';' ? 2 : 1, 3);
            }
        }
    }

    @Sentence("TOKENS, each as long as may be, blanks (32) between: NAMES (a .. z), NUMBERS (1 or 2 figures), one ; .")
    void tokensAreAsLongAsMayBe() {
        faulty("plainleft 1 1 1;", 2, 0);
        faulty("plain leftright 1 1 1;", 2, 6);
        faulty("plain left 11 1;", 3, 11);
        faulty("plain left 1 1 01;;", 2, 18);
        faulty("ru n 0;", 2, 0);
        taken("plain left 1 1 1;", 1);
        taken("plain left1 1 1;", 1);
        taken("plain left 01 1 1;", 1);
        taken("  plain  left  1  1  1  ;  ", 1);
        taken("plain left 1 1 1;run0;pen0 0;", 3);
        faulty("plain left 001 1 1;", 1, 11);
        faulty("plain left 000000000000000000000 1 1;", 1, 11);
        faulty("plain left 99999999999999999999999999 1 1;", 1, 11);
    }

    @Sentence("text: { line } line: K S N N N ; | pen N N ; | run N ; | fold N N ; | wed N N ; "
        + "K: plain | taught | vain | trembler S: left | right")
    void aTextHasNoLineOrMore() {
        for (String blanks : new String[] {"", " ", "   "}) {
            rich();
            x.end(0);
            thenTaken(blanks, 0);
            is("no LEFT", x.rule(0), 0);
            is("no RIGHT", x.rule(1), 0);
            is("no HAND", x.hand(0, 0), BAD);
        }
        String[] kinds = {"plain", "taught", "vain", "trembler"};
        for (int kind = 0; kind < 4; kind++) {
            taken(kinds[kind] + " left 1 1 1;", 1);
            is("KIND", x.hand(0, 0), kind);
            is("a LEFT", x.rule(0), 1);
            taken(kinds[kind] + " right 1 1 1;", 1);
            is("KIND", x.hand(4, 0), kind);
            is("no LEFT", x.rule(0), 0);
        }
        taken("run 0;pen 0 4;fold 0 4;wed 0 4;" + BOTH, 6);
        is("RUN", x.rule(2), 1);
        is("PEN", x.hand(0, 4), 4);
        is("FOLDED", x.hand(0, 6), 16);
        is("WED", x.hand(4, 5), 0);
    }

    @Sentence("text: { line } line: K S N N N ; | pen N N ; | run N ; | fold N N ; | wed N N ; "
        + "K: plain | taught | vain | trembler S: left | right")
    void asManyLinesAsTheTapeHolds() {
        // 132 bytes of HANDS, then 4 times run N; in 24
        taken(ALL + "run 0;run 1;run 6;run 7;", 12);
        is("RUN", x.rule(2), 1 + 2 + 64 + 128);
        faulty(ALL + "run 0;run 1;run 6;run 7;run", 2, 159);
    }

    // ---- numbers of lines

    /** In a line with # for a NUMBER: low and high are taken, what is beyond is FAULT 3. */
    private void numberBounds(String line, int low, int high) {
        int place = line.indexOf('#');
        for (int v : new int[] {low, low + 1, high - 1, high}) {
            taken(line.replace("#", "" + v), lines(line));
            taken(line.replace("#", "0" + v), lines(line));
        }
        for (int v : new int[] {high + 1, 10, 99}) {
            faulty(line.replace("#", "" + v), 3, place);
        }
        if (low > 0) {
            faulty(line.replace("#", "" + (low - 1)), 3, place);
            faulty(line.replace("#", "00"), 3, place);
        }
    }

    private static int lines(String text) {
        return text.length() - text.replace(";", "").length();
    }

    @Sentence({"K: a HAND more of that KIND on that side: LOOPS, BARS, LEAN.", "3 a NUMBER out of its bounds."})
    void numbersOfAHand() {
        for (String side : new String[] {"left", "right"}) {
            numberBounds("plain " + side + " # 0 0;", 0, 9);
            numberBounds("plain " + side + " 0 # 0;", 0, 9);
            numberBounds("plain " + side + " 0 0 #;", 0, 2);
        }
        taken("plain left 9 0 2;plain right 0 9 0;", 2);
        row("hand(0, #)", 1, (m, what) -> m.hand(0, what), 9, 0, 2);
        row("hand(4, #)", 1, (m, what) -> m.hand(4, what), 0, 9, 0);
    }

    @Sentence({"pen: a HAND (0 to 7), its PEN (0 to 7).", "3 a NUMBER out of its bounds."})
    void numbersOfAPen() {
        numberBounds(ALL + "pen # 0;", 0, 7);
        numberBounds(ALL + "pen 0 #;", 0, 7);
        taken(ALL + "pen 0 7;pen 7 0;", 10);
        is("PEN of 0", x.hand(0, 4), 7);
        is("PEN of 7", x.hand(7, 4), 0);
        is("PEN of 1, not told", x.hand(1, 4), 1);
    }

    @Sentence({"run: a HAND (0 to 7) whose PAGE is RUN.", "3 a NUMBER out of its bounds."})
    void numberOfARun() {
        numberBounds(ALL + "run #;", 0, 7);
        taken(ALL + "run 7;", 9);
        is("RUN is the last", x.rule(2), 128);
    }

    @Sentence({"fold, wed: a LEFT (0 to 3), a RIGHT (4 to 7).", "3 a NUMBER out of its bounds."})
    void numbersOfAFoldAndAWedding() {
        for (String name : new String[] {"fold", "wed"}) {
            numberBounds(ALL + name + " # 4;", 0, 3);
            numberBounds(ALL + name + " 0 #;", 4, 7);
        }
        taken(ALL + "fold 3 4;wed 0 7;", 10);
        is("FOLDED, the last LEFT", x.hand(3, 6), 16);
        is("FOLDED, the first RIGHT", x.hand(4, 6), 8);
        is("WED, the first LEFT", x.hand(0, 5), 7);
        is("WED, the last RIGHT", x.hand(7, 5), 0);
    }

    // ---- FAULTS

    /** The text up to a TOKEN of a line, with a blank behind each. */
    private static String upTo(String[] tokens, int count) {
        StringBuilder text = new StringBuilder(BOTH);
        for (int i = 0; i < count; i++) {
            text.append(tokens[i]).append(' ');
        }
        return text.toString();
    }

    @Sentence("1 no TOKEN, a NUMBER that is too long (its first byte).")
    void noTokenWhereverALineStands() {
        for (String line : LINES) {
            String[] tokens = line.split(" ");
            for (int i = 0; i <= tokens.length; i++) {
                String ahead = upTo(tokens, i);
                for (String none : new String[] {"%", "A", "\t", "\n", "-1", "+1", "000", "100", "123456789012"}) {
                    faulty(ahead + none, 1, ahead.length());
                }
            }
        }
        // one figure and two are NUMBERS, three are not
        faulty("0", 2, 0);
        faulty("00", 2, 0);
        faulty("000", 1, 0);
        faulty("  000", 1, 2);
    }

    @Sentence("2 a TOKEN that can not stand there (a NAME that begins no line, is no S; or the end: the length).")
    void aTokenWhereItCanNotStand() {
        for (String line : LINES) {
            String[] tokens = line.split(" ");
            for (int i = 0; i <= tokens.length; i++) {
                String ahead = upTo(tokens, i);
                for (String other : new String[] {"clerk", "left", "run", "7", "07", ";"}) {
                    if (i == tokens.length ? !other.equals("run") : !canStand(other, tokens[i])) {
                        faulty(ahead + other, 2, ahead.length());
                        is("nothing was told", x.rule(0), 0);
                    }
                }
            }
        }
    }

    private static boolean canStand(String token, String due) {
        if (due.equals(";")) {
            return token.equals(";");
        }
        if (Character.isDigit(due.charAt(0))) {
            return Character.isDigit(token.charAt(0));
        }
        boolean side = due.equals("left") || due.equals("right");
        return side ? token.equals("left") : token.equals("run");
    }

    @Sentence("2 a TOKEN that can not stand there (a NAME that begins no line, is no S; or the end: the length).")
    void namesThatAreNearlyThose() {
        String[] names = {"plain", "taught", "vain", "trembler", "pen", "run", "fold", "wed"};
        for (String name : names) {
            faulty(name.substring(1) + " 0", 2, 0);
            faulty(name.substring(0, name.length() - 1) + " 0", 2, 0);
            faulty(name + "s 0", 2, 0);
            faulty("a" + name + " 0", 2, 0);
            faulty(name.substring(0, name.length() - 1) + "q 0", 2, 0);
            faulty(name.substring(0, 1).toUpperCase() + name.substring(1) + " 0", 1, 0);
        }
        for (String side : new String[] {"lef", "eft", "lefts", "aleft", "lefq", "righ", "ight", "rights", "righu", "plain"}) {
            faulty("plain " + side + " 1 1 1;", 2, 6);
        }
        faulty("left 1 1 1;", 2, 0);
        faulty("right 1 1 1;", 2, 0);
    }

    @Sentence("2 a TOKEN that can not stand there (a NAME that begins no line, is no S; or the end: the length).")
    void theEndWithinALine() {
        for (String line : LINES) {
            String[] tokens = line.split(" ");
            for (int i = 1; i < tokens.length; i++) {
                String ahead = upTo(tokens, i);
                faulty(ahead.stripTrailing(), 2, ahead.length() - 1);
                faulty(ahead, 2, ahead.length());
                faulty(ahead + "  ", 2, ahead.length() + 2);
            }
            taken(upTo(tokens, tokens.length), 3);
        }
    }

    @Sentence("4 a HAND whose PEN is told, that is RUN already (it); "
        + "a RIGHT with which that LEFT is FOLDED already (it); a LEFT, a RIGHT that is WED already (it).")
    void whatIsToldAlready() {
        String four = "vain left 1 1 1;vain left 1 1 1;vain right 1 1 1;vain right 1 1 1;";
        int from = four.length();
        taken(four + "pen 0 1;pen 1 1;", 6);
        taken(four + "pen 0 1;pen 1 0;pen 4 0;", 7);
        faulty(four + "pen 0 1;pen 0 1;", 4, from + 12);
        faulty(four + "pen 0 0;pen 0 4;", 4, from + 12);
        faulty(four + "pen 5 1;pen 0 5;pen 5 1;", 4, from + 20);
        taken(four + "run 0;run 1;run 4;run 5;", 8);
        faulty(four + "run 0;run 0;", 4, from + 10);
        faulty(four + "run 5;run 0;run 5;", 4, from + 16);
        taken(four + "fold 0 4;fold 0 5;fold 1 4;fold 1 5;", 8);
        faulty(four + "fold 0 4;fold 0 4;", 4, from + 16);
        faulty(four + "fold 1 5;fold 0 5;fold 1 4;fold 1 5;", 4, from + 34);
        taken(four + "wed 0 4;wed 1 5;", 6);
        faulty(four + "wed 0 4;wed 0 5;", 4, from + 12);
        faulty(four + "wed 0 4;wed 1 4;", 4, from + 14);
        faulty(four + "wed 0 4;wed 0 4;", 4, from + 12);
        taken(four + "fold 0 4;wed 0 4;run 0;pen 0 4;", 8);
    }

    @Sentence("4 a HAND whose PEN is told, that is RUN already (it); "
        + "a RIGHT with which that LEFT is FOLDED already (it); a LEFT, a RIGHT that is WED already (it).")
    void whatAnEarlierTextToldIsNoFault() {
        String told = BOTH + "pen 0 4;run 0;fold 0 4;wed 0 4;";
        taken(told, 6);
        thenTaken(told, 6);
        thenFaulty("pen 0 4;run 0;fold 0 4;wed 0 4;%", 1, 31);
        thenTaken(told, 6);
    }

    @Sentence("5 the 5th LEFT, the 5th RIGHT (S).")
    void noFifthOfASide() {
        String lefts = "vain left 1 1 1;".repeat(4);
        String rights = "vain right 1 1 1;".repeat(4);
        taken(lefts, 4);
        is("4 LEFTS", x.rule(0), 4);
        taken(lefts + rights, 8);
        is("4 RIGHTS", x.rule(1), 4);
        faulty(lefts + "vain left 1 1 1;", 5, 69);
        faulty(lefts + "plain left", 5, 70);
        faulty(lefts + "vain left%", 5, 69);
        faulty(rights + "vain right 99 1 1;", 5, 73);
        faulty(lefts + rights + "vain left 1 1 1;", 5, 137);
        faulty(lefts + rights + "vain  right 1 1 1;", 5, 138);
        taken(rights + "vain left 1 1 1;", 5);
        is("RIGHTS stay 4", x.rule(1), 4);
        is("a LEFT", x.rule(0), 1);
    }

    @Sentence("FAULTS, the first met as it is read (a TOKEN is read when the one before has been taken):")
    void theFirstFaultIsMet() {
        faulty("clerk %", 2, 0);
        faulty("% clerk", 1, 0);
        faulty("plain up %", 2, 6);
        faulty("plain % up", 1, 6);
        faulty("run 8 000", 3, 4);
        faulty("run 000 8", 1, 4);
        faulty("run 0 8", 2, 6);
        faulty("run 0;run 0%", 4, 10);
        faulty("run 0;run %", 1, 10);
        faulty("pen 0 0;pen 0;", 4, 12);
        faulty("pen 0 0;pen 8 9", 3, 12);
        faulty("pen 0 0;pen 1;", 2, 13);
        faulty("fold 0 4;fold 0 4 4", 4, 16);
        faulty("fold 0 4;fold 0 8", 3, 16);
        faulty("fold 0 4;fold 9 9", 3, 14);
        faulty("wed 0 4;wed 0 8", 4, 12);
        faulty("wed 0 4;wed 1 8", 3, 14);
        faulty("wed 0 4;wed 4 4", 3, 12);
        faulty("plain left 10 10 3;", 3, 11);
        faulty("plain left 0 10 3;", 3, 13);
        faulty("plain left 0 0 3 %", 3, 15);
        faulty("plain left 0 0 2 %", 1, 17);
        faulty("run 7;run 8;", 3, 10);
    }

    @Sentence("FAULTS, the first met as it is read (a TOKEN is read when the one before has been taken):")
    void whateverComesBehindTheFirstFault() {
        String[] later = {" %", " 000", " clerk", " 7", " ;", ";;", " run 9;", "; run 0;run 0;", "; run 7;"};
        for (String line : LINES) {
            String[] tokens = line.split(" ");
            for (int i = 0; i < tokens.length; i++) {
                String ahead = upTo(tokens, i);
                for (String behind : later) {
                    faulty(ahead + "%" + behind, 1, ahead.length());
                    faulty(ahead + "1000" + behind, 1, ahead.length());
                    faulty(ahead + "clerk" + behind, 2, ahead.length());
                    if (Character.isDigit(tokens[i].charAt(0))) {
                        faulty(ahead + ";" + behind, 2, ahead.length());
                        faulty(ahead + "99" + behind, 3, ahead.length());
                    } else {
                        faulty(ahead + "7" + behind, 2, ahead.length());
                    }
                }
            }
        }
        for (String behind : later) {
            faulty("run 0;run 0" + behind, 4, 10);
            faulty("pen 0 0;pen 0" + behind, 4, 12);
            faulty("fold 0 4;fold 0 4" + behind, 4, 16);
            faulty("wed 0 4;wed 0" + behind, 4, 12);
            faulty("wed 0 4;wed 1 4" + behind, 4, 14);
            faulty("vain left 1 1 1;".repeat(4) + "vain left" + behind, 5, 69);
            faulty("vain right 1 1 1;".repeat(4) + "vain right" + behind, 5, 73);
        }
    }

    @Sentence("Behind all (the length): 6 a HAND that there is not.")
    void aHandThatThereIsNot() {
        for (int lefts = 0; lefts <= 3; lefts++) {
            for (int rights = 0; rights <= 3; rights++) {
                handsThatThereAreNot(handsOf(lefts, rights), lefts, rights);
            }
        }
        faulty("run 0;   ", 6, 9);
        faulty("   run 0;", 6, 9);
        faulty("run 0;run 0;", 4, 10);
        faulty("run 0;clerk", 2, 6);
        taken("run 0;plain left 1 1 1;", 2);
        taken("pen 4 0;wed 0 4;fold 0 4;" + BOTH, 5);
    }

    private void handsThatThereAreNot(String hands, int lefts, int rights) {
        int lines = lefts + rights;
        toldOf(hands, "run #;", lefts, lefts - 1, lines);
        toldOf(hands, "run #;", 4 + rights, rights == 0 ? -1 : 3 + rights, lines);
        if (lefts > 0) {
            toldOf(hands, "pen 0 #;", lefts, lefts - 1, lines);
            toldOf(hands, "pen # 0;", lefts, lefts - 1, lines);
            toldOf(hands, "pen # 0;", 4 + rights, rights == 0 ? -1 : 3 + rights, lines);
            toldOf(hands, "pen 0 #;", 4 + rights, rights == 0 ? -1 : 3 + rights, lines);
            toldOf(hands, "fold 0 #;", 4 + rights, rights == 0 ? -1 : 3 + rights, lines);
            toldOf(hands, "wed 0 #;", 4 + rights, rights == 0 ? -1 : 3 + rights, lines);
        }
        if (rights > 0) {
            toldOf(hands, "fold # 4;", lefts, lefts - 1, lines);
            toldOf(hands, "wed # 4;", lefts, lefts - 1, lines);
        }
    }

    /** The first that there is not is FAULT 6, ahead of the HANDS and behind them; the last that there is is none. */
    private void toldOf(String hands, String line, int notThere, int there, int lines) {
        String not = line.replace("#", "" + notThere);
        faulty(hands + not, 6, hands.length() + not.length());
        faulty(not + hands, 6, hands.length() + not.length());
        if (there >= 0) {
            taken(hands + line.replace("#", "" + there), lines + 1);
            taken(line.replace("#", "" + there) + hands, lines + 1);
        }
    }

    // ---- promises 4 and 5

    @Sentence("A text that is taken tells all, in place of what there was; nothing is SEEN; IMAGES are gone.")
    void aTextThatIsTaken() {
        rich();
        x.end(0);
        is("torn ahead", x.torn(), 2);
        is("three SEEN", x.count(0), 3);
        is("two IMAGES", x.count(1), 2);
        thenTaken(BOTH, 2);
        row("rule(#)", 0, (m, what) -> m.rule(what), 1, 1, 0, 0, 0);
        row("hand(0, #)", 0, (m, what) -> m.hand(0, what), 0, 1, 2, 0, 0, NONE, 0);
        row("hand(4, #)", 0, (m, what) -> m.hand(4, what), 0, 3, 4, 0, 4, NONE, 0);
        is("1 is no more", x.hand(1, 0), BAD);
        is("5 is no more", x.hand(5, 0), BAD);
        is("nothing is SEEN", x.count(0), 0);
        is("nothing to forget", x.forget(0), 0);
        is("all FIT", x.fits(4), 17);
        is("no IMAGE", x.count(1), 0);
        is("IMAGE 0 is gone", x.back(0), STATE);
        is("IMAGE 1 is gone", x.back(1), STATE);
        is("SHEETS stay", x.count(3), 3);
        is("so does the FAULT of read()", x.torn(), 2);
        is("there was no IMAGE", x.keep(0), 0);
    }

    @Sentence("THE TAPE (empty then) tells all: how many lines; -10 less the place of its FAULT: that which was told stays.")
    void aTextThatIsRefused() {
        String[] wrong = {"%", "x", "plain left 10", "run 0;run 0", "vain left 1 1 1;".repeat(4) + "vain left", "run 7;"};
        int[] behind = {1, 1, 2, 1, 4, 0};
        for (int i = 0; i < wrong.length; i++) {
            String text = wrong[i];
            // the latest text was refused by the same FAULT, THE TAPE is empty: so nothing at all differs behind it
            fresh(TWO, m -> {
                m.years(3);
                m.keep(1);
                m.wed(0, 4);
                m.run(0, true);
                m.see(4, 1, 1);
                tell(m, text);
            });
            is("FAULT", x.fault(), i + 1);
            int place = wrong[i].length() - behind[i];
            refused("text of " + text, -10 - place, m -> tell(m, text));
            row("rule(#)", 0, (m, what) -> m.rule(what), 1, 1, 1, 17, 3);
            is("SEEN stays", x.count(0), 1);
            is("IMAGE stays", x.count(1), 1);
            is("THE TAPE is empty", x.count(2), 0);
            is("so a byte is its first", x.feed(' '), 1);
        }
    }

    @Sentence("The FAULT of the latest text(); 0.")
    void theLatestTextsFault() {
        is("no text yet", x.fault(), 0);
        thenFaulty("run 0;", 6, 6);
        feedAll(x, "%");
        is("bytes are no text", x.fault(), 6);
        x.end(0);
        is("nor is an end", x.fault(), 6);
        x.feed(128);
        is("nor is what is refused", x.fault(), 6);
        thenFaulty("%", 1, 0);
        thenTaken("", 0);
        thenFaulty(";", 2, 0);
        thenFaulty("run 9", 3, 4);
        thenFaulty("run 0;run 0", 4, 10);
        thenFaulty("vain left 1 1 1;".repeat(5), 5, 69);
        thenTaken(BOTH, 2);
        is("no FAULT", x.fault(), 0);
    }
}
