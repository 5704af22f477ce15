import java.lang.reflect.InvocationTargetException;
import java.lang.reflect.Method;
import java.util.ArrayList;
import java.util.Comparator;
import java.util.List;
import java.util.function.Consumer;
import java.util.function.ToLongBiFunction;
import java.util.function.ToLongFunction;

/** What the boundary tests share: towns to begin with, and calls that must be refused and change nothing. */
abstract class Boundary {
    static final int BAD = -1, STATE = -2, FULL = -3, NONE = -4;
    static final int LEAST = Integer.MIN_VALUE, MOST = Integer.MAX_VALUE;

    /** LEFTS 0 to 2, RIGHTS 4 and 5. PAGES: 0 and 1 show 5 3; 2 shows 4 4; 4 shows 2 5; 5 shows 8 8. */
    static final String TOWN = "plain left 3 7 0;taught right 2 5 1;vain left 9 1 1;"
        + "trembler right 8 8 1;taught left 4 4 2;pen 0 4;run 0;fold 2 5;wed 0 4;";
    /** Four of each; LEFTS like 4, 5, 6, 7 in that order, RIGHTS 3, 2, 1, 0; so all that HOLDS is 0 7, 1 6, 2 5, 3 4. */
    static final String LADDER = "vain left 1 0 0;vain left 2 0 0;vain left 3 0 0;vain left 4 0 0;"
        + "vain right 9 9 0;vain right 8 8 0;vain right 7 7 0;vain right 6 6 0;";
    /** LEFTS would have 0 with 4, 1 with 5; RIGHTS the other way: both HOLD. */
    static final String RING = "plain left 0 0 0;plain left 9 9 0;plain right 3 3 0;plain right 6 6 0;"
        + "pen 0 5;pen 1 4;pen 4 0;pen 5 1;";
    /** One of each. */
    static final String TWO = "vain left 1 1 1;vain right 1 1 1;";

    private final Due due = new Due(getClass().getSimpleName());
    private Consumer<HandMarket> past = market -> { };
    /** The object that is asked; a test begins it by one of the fresh ones. */
    HandMarket x = new HandMarket();

    /** All tests of sentences, in the order of their names. */
    static List<Method> testsOf(Class<?> of) {
        List<Method> tests = new ArrayList<>();
        for (Method m : of.getDeclaredMethods()) {
            if (m.isAnnotationPresent(Sentence.class)) {
                tests.add(m);
            }
        }
        // the order of reflection is not promised, and runs are to be the same each time
        tests.sort(Comparator.comparing(Method::getName));
        return tests;
    }

    void runAll() {
        for (Method test : testsOf(getClass())) {
            fresh();
            try {
                test.invoke(this);
            } catch (InvocationTargetException e) {
                due.isTrue(test.getName() + " threw " + e.getCause(), false);
            } catch (IllegalAccessException e) {
                due.isTrue(test.getName() + " can't be called", false);
            }
        }
        due.close();
    }

    void is(String call, long got, long want) {
        due.is(call, got, want);
    }

    void fresh() {
        fresh(market -> { });
    }

    void fresh(String text) {
        fresh(text, market -> { });
    }

    void fresh(String text, Consumer<HandMarket> then) {
        fresh(market -> {
            due.isTrue("taken: " + text, tell(market, text) >= 0);
            then.accept(market);
        });
    }

    void fresh(Consumer<HandMarket> by) {
        past = by;
        x = again();
    }

    /** One more object that has come to be like x was when it was fresh. */
    HandMarket again() {
        HandMarket market = new HandMarket();
        past.accept(market);
        return market;
    }

    /** A town with something everywhere: SEEN, IMAGES, SHEETS, faults of text() and read(), bytes on THE TAPE. */
    void rich() {
        fresh(TOWN, Boundary::enrich);
    }

    static void enrich(HandMarket market) {
        market.years(1);
        market.keep(0);
        market.years(2);
        market.alter(1, 4, 5);
        market.keep(1);
        market.run(1, true);
        market.see(0, 0, market.page(0, 0));
        market.see(5, 2, 1);
        market.see(5, 1, 8);
        market.sheet(0, 0, 3);
        market.sheet(1, 1, 6);
        market.sheet(2, 2, 7);
        layAll(market, 0, 1, 2, 0);
        layAll(market, 1, 2, 4, 5, 0, 0, 5);
        layAll(market, 2, 4, 1, 9, 9, 0, 0);
        market.read(0, 0, 2, 1);
        tell(market, "x");
        feedAll(market, "vain left 1 2 0;");
    }

    static void layAll(HandMarket market, int k, int... cells) {
        for (int i = 0; i < cells.length; i++) {
            market.lay(k, i, cells[i]);
        }
    }

    static void feedAll(HandMarket market, String text) {
        for (int i = 0; i < text.length(); i++) {
            market.feed(text.charAt(i));
        }
    }

    static int tell(HandMarket market, String text) {
        feedAll(market, text);
        return market.text();
    }

    /** A new object refuses a text by that FAULT at that place. */
    void faulty(String text, int fault, int place) {
        x = new HandMarket();
        thenFaulty(text, fault, place);
    }

    /** A new object takes a text. */
    void taken(String text, int lines) {
        x = new HandMarket();
        thenTaken(text, lines);
    }

    void thenFaulty(String text, int fault, int place) {
        told(text, -10 - place, fault);
    }

    void thenTaken(String text, int lines) {
        told(text, lines, 0);
    }

    private void told(String text, int want, int fault) {
        is("text of \"" + text + "\"", tell(x, text), want);
        is("fault of \"" + text + "\"", x.fault(), fault);
        is("bytes behind \"" + text + "\"", x.count(2), 0);
    }

    /** The call answers so; then all is asked of its object, and of one that was not called. */
    void refused(String call, long want, ToLongFunction<HandMarket> it) {
        for (int group = 0; group < Answers.GROUPS; group++) {
            HandMarket called = again();
            is(call, it.applyAsLong(called), want);
            List<String> now = Answers.of(called, group);
            List<String> untouched = Answers.of(again(), group);
            for (int i = 0; i < now.size(); i++) {
                String differs = call + " was refused, but then " + now.get(i) + ", else " + untouched.get(i);
                due.isTrue(differs, now.get(i).equals(untouched.get(i)));
            }
        }
    }

    /** Just beyond both ends, and far beyond: BAD. */
    void badBeyond(String call, int low, int high, ToLongBiFunction<HandMarket, Integer> it) {
        badFor(call, it, low - 1, high + 1, LEAST, MOST);
    }

    void badFor(String call, ToLongBiFunction<HandMarket, Integer> it, int... numbers) {
        for (int v : numbers) {
            refused(call.replace("#", "" + v), BAD, market -> it.applyAsLong(market, v));
        }
    }

    /** What a call answers for low, low + 1 and so on. */
    void row(String call, int low, ToLongBiFunction<HandMarket, Integer> it, long... wants) {
        for (int i = 0; i < wants.length; i++) {
            is(call.replace("#", "" + (low + i)), it.applyAsLong(x, low + i), wants[i]);
        }
    }

    /** Text lines of LEFTS and RIGHTS whose LOOPS tell them apart. */
    static String handsOf(int lefts, int rights) {
        StringBuilder text = new StringBuilder();
        for (int i = 0; i < Math.max(lefts, rights); i++) {
            // by turns, so that the order within a side is not that of the lines
            text.append(i < rights ? "vain right " + (i + 5) + " 0 0;" : "");
            text.append(i < lefts ? "vain left " + (i + 1) + " 0 0;" : "");
        }
        return text.toString();
    }
}
