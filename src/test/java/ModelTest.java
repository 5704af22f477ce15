import java.util.Random;

/** Long runs of calls by a seed, answered by HandMarket and by Model; every answer must be the same. */
public final class ModelTest {
    private static final int RUNS = 400;
    private static final int CALLS = 512;
    private static final String[] KINDS = {"plain", "taught", "vain", "trembler"};
    private static final String[] PIECES = {
        "plain", "taught", "vain", "trembler", "left", "right", "pen", "run", "fold", "wed", "clerk",
        "0", "1", "2", "3", "4", "5", "7", "8", "9", "10", "04", "123", ";", ";", ";", " ", "  ", "%", "A", "\t"};

    private final Random random;
    private final Due due = new Due("ModelTest");
    private HandMarket market;
    private Model model;
    private int run;
    private int calls;

    private ModelTest(long seed) {
        random = new Random(seed);
    }

    public static void main(String[] args) {
        ModelTest test = new ModelTest(20261117L);
        for (test.run = 0; test.run < RUNS; test.run++) {
            test.oneRun();
        }
        test.due.close();
    }

    private void oneRun() {
        market = new HandMarket();
        model = new Model();
        calls = 0;
        boolean empty = random.nextInt(20) == 0;
        while (calls < CALLS) {
            if (!empty && (calls == 0 || random.nextInt(120) == 0)) {
                feedAll(random.nextInt(3) == 0 && calls > 0 ? garbled() : sound());
                same("text()", market.text(), model.text());
                same("fault()", market.fault(), model.fault());
            }
            anyCall(random.nextInt(42));
        }
    }

    private void same(String call, long got, long want) {
        calls++;
        // what an object answers behind its 512th call is free
        if (calls <= CALLS) {
            due.is("run " + run + ", call " + calls + ": " + call, got, want);
        }
    }

    private void feedAll(String text) {
        for (int i = 0; i < text.length(); i++) {
            same("feed", market.feed(text.charAt(i)), model.feed(text.charAt(i)));
        }
    }

    private int below(int n) {
        return random.nextInt(n);
    }

    /** Some LEFTS, some RIGHTS, and lines that tell of them; at times of one that there is not. */
    private String sound() {
        int lefts = below(4) == 0 ? below(5) : 2 + below(3);
        int rights = below(4) == 0 ? below(5) : 2 + below(3);
        int most = below(4) == 0 ? 3 : 10;
        StringBuilder b = new StringBuilder();
        for (int i = 0; i < lefts + rights; i++) {
            b.append(KINDS[below(4)]).append(i < lefts ? " left " : " right ");
            b.append(below(most)).append(' ').append(below(most)).append(' ').append(below(3)).append(';');
        }
        for (int i = below(5); i > 0; i--) {
            String line = otherLine(Math.max(1, lefts), Math.max(1, rights));
            if (b.length() + line.length() <= 160) {
                b.insert(below(6) == 0 ? 0 : b.length(), line);
            }
        }
        return b.length() > 160 ? b.substring(0, b.lastIndexOf(";", 159) + 1) : b.toString();
    }

    private String otherLine(int lefts, int rights) {
        int a = below(lefts);
        int b = 4 + below(rights);
        switch (below(4)) {
            case 0: return "pen " + (below(2) == 0 ? a : b) + " " + (below(2) == 0 ? below(lefts) : b) + ";";
            case 1: return "run " + (below(2) == 0 ? a : b) + ";";
            case 2: return "fold " + a + " " + b + ";";
            default: return "wed " + a + " " + b + ";";
        }
    }

    private String garbled() {
        StringBuilder b = new StringBuilder(sound());
        for (int i = 1 + below(3); i > 0; i--) {
            int at = below(b.length() + 1);
            int cut = Math.min(b.length(), at + below(3));
            b.replace(at, cut, PIECES[below(PIECES.length)]);
        }
        return b.toString();
    }

    private int hand() {
        return below(12) == 0 ? below(14) - 3 : below(8);
    }

    private int what(int high) {
        return below(15) == 0 ? below(high + 5) - 2 : below(high + 1);
    }

    private int left() {
        return below(12) == 0 ? hand() : below(4);
    }

    private int right() {
        return below(12) == 0 ? hand() : 4 + below(4);
    }

    private void anyCall(int which) {
        if (which < 16) {
            change(which);
        } else if (which < 30) {
            pairs(which);
        } else {
            rest(which);
        }
    }

    private void change(int which) {
        int a = hand();
        int w = what(6);
        int v = below(12) - 1;
        boolean is = random.nextBoolean();
        switch (which) {
            case 0: same("hand", market.hand(a, w), model.hand(a, w)); break;
            case 1: same("page", market.page(a, w % 4), model.page(a, w % 4)); break;
            case 2: same("likes", market.likes(a, v), model.likes(a, v)); break;
            case 3: same("rather", market.rather(a, w - 1), model.rather(a, w - 1)); break;
            case 4: case 5: case 6: same("alter", market.alter(a, w, v), model.alter(a, w, v)); break;
            case 7: same("run", market.run(a, is), model.run(a, is)); break;
            case 8: fold(left(), right(), below(3) == 0); break;
            case 9: case 10: wed(left(), right()); break;
            case 11: same("part", market.part(a), model.part(a)); break;
            case 12: same("rule", market.rule(w - 1), model.rule(w - 1)); break;
            case 13: tapeEnd(); break;
            case 14: same("years", market.years(w), model.years(w)); break;
            default: manyYears(); break;
        }
    }

    private void fold(int a, int b, boolean is) {
        same("fold", market.fold(a, b, is), model.fold(a, b, is));
    }

    private void wed(int a, int b) {
        same("wed", market.wed(a, b), model.wed(a, b));
    }

    private void tapeEnd() {
        int c = below(140) - 5;
        same("feed", market.feed(c), model.feed(c));
        int n = below(5) - 1;
        same("end", market.end(n), model.end(n));
        same("end", market.end(0), model.end(0));
    }

    private void manyYears() {
        int n = below(23) - 1;
        int times = below(6) == 0 ? 60 : 1;
        for (int i = 0; i < times; i++) {
            same("years", market.years(n), model.years(n));
        }
    }

    private void pairs(int which) {
        int a = hand();
        int w = what(1);
        switch (which) {
            case 16: case 17: same("asked", market.asked(w, a), model.asked(w, a)); break;
            case 18: w = what(3); same("sum", market.sum(w), model.sum(w)); break;
            case 19: w = below(3) == 0 ? what(0) : 10 + hand(); same("hold " + w, market.hold(w), model.hold(w)); break;
            case 20: w = below(3) == 0 ? what(0) : 10 + hand(); same("most " + w, market.most(w), model.most(w)); break;
            case 21: same("quarrel " + w, market.quarrel(w), model.quarrel(w)); break;
            case 22: same("alone", market.alone(), model.alone()); break;
            case 23: same("alike", market.alike(), model.alike()); break;
            case 24: same("near " + w, market.near(w), model.near(w)); break;
            case 25: same("forge " + w, market.forge(a, w), model.forge(a, w)); break;
            case 26: same("swap " + w, market.swap(w), model.swap(w)); break;
            case 27: stolen(what(10), w); break;
            case 28: lucky(what(10), a, w); break;
            default: drift(random.nextInt(), what(60), w); break;
        }
    }

    private void stolen(int v, int w) {
        same("mean", market.mean(v, w), model.mean(v, w));
    }

    private void lucky(int v, int a, int w) {
        same("luck", market.luck(v, a, w), model.luck(v, a, w));
    }

    private void drift(int seed, int n, int w) {
        same("drift", market.drift(seed, n, w), model.drift(seed, n, w));
    }

    private void rest(int which) {
        int a = hand();
        int k = what(3);
        switch (which) {
            case 30: seeTrue(a, what(2)); break;
            case 31: see(a, what(2), below(12) - 1); break;
            case 32: k = below(8) - 1; same("forget", market.forget(k), model.forget(k)); break;
            case 33: same("fits", market.fits(a), model.fits(a)); break;
            case 34: k = what(1); same("look", market.look(a, k), model.look(a, k)); break;
            case 35: k = what(1); same("keep", market.keep(k), model.keep(k)); break;
            case 36: k = what(1); same("back", market.back(k), model.back(k)); break;
            case 37: newSheet(k, what(2)); break;
            case 38: lay(k, below(44) - 2, random.nextInt()); break;
            case 39: layPens(k, below(30)); break;
            case 40: read(k, what(2), below(4) == 0 ? random.nextInt() : below(44) - 2, what(20)); break;
            default: k = what(5); same("count", market.count(k), model.count(k)); break;
        }
    }

    private void see(int a, int w, int v) {
        same("see", market.see(a, w, v), model.see(a, w, v));
    }

    /** What the PAGE shows just now, so that something FITS. */
    private void seeTrue(int a, int w) {
        int v = model.page(a, w);
        see(a, w, v);
        same("fits", market.fits(a), model.fits(a));
        int k = what(1);
        same("look", market.look(a, k), model.look(a, k));
    }

    private void newSheet(int k, int lane) {
        int n = below(10) == 0 ? below(60) - 10 : below(41);
        same("sheet", market.sheet(k, lane, n), model.sheet(k, lane, n));
    }

    private void lay(int k, int i, int v) {
        same("lay", market.lay(k, i, v), model.lay(k, i, v));
    }

    private void layPens(int k, int from) {
        int n = below(8);
        for (int i = 0; i < 2 * n; i++) {
            // a high bit that BYTES and SHORTS do not keep
            lay(k, from + i, hand() + (below(10) == 0 ? 1 << 16 : 0) + (below(10) == 0 ? 256 : 0));
        }
        for (int lane = 0; lane < 3; lane++) {
            read(k, lane, from, n + below(2));
        }
    }

    private void read(int k, int lane, int f, int n) {
        same("read", market.read(k, lane, f, n), model.read(k, lane, f, n));
        same("torn", market.torn(), model.torn());
        int a = hand();
        same("hand", market.hand(a, 4), model.hand(a, 4));
    }
}
