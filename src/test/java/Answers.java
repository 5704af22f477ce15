import java.util.ArrayList;
import java.util.List;

/**
 * All that can be asked of an object, in groups, as an object is used for at most 512 calls: a group needs less than 300.
 * What can't be seen without changing it (THE TAPE, SEEN, IMAGES, SHEETS) is changed, last in its group.
 */
final class Answers {
    static final int GROUPS = 4;

    private final HandMarket x;
    private final List<String> all = new ArrayList<>();

    private Answers(HandMarket x) {
        this.x = x;
    }

    static List<String> of(HandMarket x, int group) {
        Answers answers = new Answers(x);
        switch (group) {
            case 0: answers.whatThereIs(); break;
            case 1: answers.whatWouldBe(); break;
            case 2: answers.images(); break;
            default: answers.sheets(); break;
        }
        return answers.all;
    }

    private void add(String call, long answer) {
        all.add(call + " is " + answer);
    }

    private void hands() {
        for (int what = 0; what <= 4; what++) {
            add("rule " + what, x.rule(what));
        }
        for (int a = 0; a < 8; a++) {
            for (int what = 0; what <= 6; what++) {
                add("hand " + a + " " + what, x.hand(a, what));
            }
        }
    }

    private void pages() {
        for (int a = 0; a < 8; a++) {
            for (int what = 0; what <= 2; what++) {
                add("page " + a + " " + what, x.page(a, what));
            }
            for (int k = 0; k <= 4; k++) {
                add("rather " + a + " " + k, x.rather(a, k));
            }
            add("asked 0 " + a, x.asked(0, a));
            add("asked 1 " + a, x.asked(1, a));
            add("hold " + (10 + a), x.hold(10 + a));
            add("most " + (10 + a), x.most(10 + a));
        }
    }

    private void whatThereIs() {
        hands();
        pages();
        for (int what = 0; what <= 5; what++) {
            add("sum " + what, x.sum(what));
            add("count " + what, x.count(what));
        }
        add("hold 0", x.hold(0));
        add("most 0", x.most(0));
        add("quarrel 0", x.quarrel(0));
        add("quarrel 1", x.quarrel(1));
        add("alone", x.alone());
        add("alike", x.alike());
        add("near 0", x.near(0));
        add("near 1", x.near(1));
        add("torn", x.torn());
        add("fault", x.fault());
        add("text", x.text());
        add("fault of it", x.fault());
        hands();
    }

    private void whatWouldBe() {
        for (int a = 0; a < 8; a++) {
            add("forge 0 " + a, x.forge(a, 0));
            add("forge 1 " + a, x.forge(a, 1));
            add("luck " + a, x.luck(3, a, 0));
            add("look 0 " + a, x.look(a, 0));
            add("look 1 " + a, x.look(a, 1));
        }
        add("swap 0", x.swap(0));
        add("swap 1", x.swap(1));
        add("mean 0", x.mean(3, 0));
        add("mean 1", x.mean(3, 1));
        add("drift 0", x.drift(5, 9, 0));
        add("drift 1", x.drift(5, 9, 1));
        for (int n = 6; n >= 0; n--) {
            add("forget " + n, x.forget(n));
            for (int a = 0; a < 8; a++) {
                add(n + " SEEN, fits " + a, x.fits(a));
            }
        }
    }

    private void images() {
        for (int k = 0; k <= 1; k++) {
            add("back " + k, x.back(k));
            hands();
        }
        add("keep 0", x.keep(0));
        add("keep 1", x.keep(1));
    }

    private void sheets() {
        for (int k = 0; k < 4; k++) {
            for (int lane = 0; lane < 3; lane++) {
                for (int i = 0; i < 3; i++) {
                    add("read " + k + " " + lane + " " + 2 * i, x.read(k, lane, 2 * i, 1));
                }
                add("torn", x.torn());
                for (int a = 0; a < 6; a++) {
                    add("pen of " + a, x.hand(a, 4));
                }
            }
            for (int i : new int[] {0, 1, 2, 3, 5, 6, 7, 38, 39, 40}) {
                add("lay " + k + " " + i, x.lay(k, i, 0));
            }
        }
    }
}
