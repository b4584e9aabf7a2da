import java.util.Random;

/** Runs of calls by chance, from told seeds: each answer is compared with the model's. */
public final class RandomRunsTest {
    private static final int RUNS = 1200;
    private static final int CALLS = 512;

    private static final Checks C = new Checks();

    private final Random random;
    private final LampShares desk = new LampShares();
    private final Model model = new Model();
    private int calls = 0;

    private RandomRunsTest(long seed) {
        random = new Random(seed);
        C.part("run " + seed);
    }

    public static void main(String[] args) {
        int runs = args.length > 0 ? Integer.parseInt(args[0]) : RUNS;
        for (int seed = 0; seed < runs; seed++) {
            new RandomRunsTest(seed).run();
        }
        C.finish();
    }

    private void run() {
        if (random.nextInt(10) > 0) {
            anotherPlan();
        }
        while (calls < CALLS - 120) {
            int kind = random.nextInt(400);
            if (kind == 0) {
                anotherPlan();
            } else if (kind < 6) {
                aText();
            } else {
                aCall();
            }
        }
    }

    private int below(int n) {
        return random.nextInt(n);
    }

    /** Mostly one of 0 .. n - 1, now and then another number. */
    private int about(int n) {
        int odd = below(24);
        if (odd == 0) {
            int[] odds = {-1, n, n + 1, 31, 32, 33, 64, -32, Integer.MIN_VALUE, Integer.MAX_VALUE};
            return odds[below(odds.length)];
        }
        return n == 0 ? 0 : below(n);
    }

    private void same(String call, long got, long want) {
        calls++;
        C.due("call " + calls + ", " + call, got, want);
    }

    private void tell(String text) {
        for (int i = 0; i < text.length(); i++) {
            int letter = text.charAt(i);
            same("write(" + letter + ")", desk.write(letter), model.write(letter));
        }
    }

    private String figures(int n, int from, int to) {
        StringBuilder row = new StringBuilder();
        for (int i = 0; i < n; i++) {
            row.append((char) ('0' + from + below(to - from + 1)));
        }
        return row.toString();
    }

    private String planText() {
        int size = 1 + below(6);
        StringBuilder text = new StringBuilder("L");
        text.append(figures(10, below(4) == 0 ? 0 : 1, 9)).append(figures(1, 0, below(2) == 0 ? 2 : 9));
        int spots = 0, points = 0, walls = 0;
        int parts = below(18);
        int likely = below(3);
        for (int i = 0; i < parts; i++) {
            int kind = below(4);
            if ((kind == 0 || kind == 3 && likely == 0) && spots < 8) {
                text.append('s').append(figures(2, 0, size - 1)).append(figures(2, 1, below(2) == 0 ? 3 : 9));
                spots++;
            } else if ((kind == 1 || kind == 3 && likely == 1) && points < 6) {
                text.append('f').append(figures(2, 0, size - 1)).append(figures(1, 0, below(2) == 0 ? 2 : 9)).append(figures(1, 0, 9));
                points++;
            } else if ((kind == 2 || kind == 3 && likely == 2) && walls < 5) {
                String from = figures(2, 0, size);
                String to = figures(2, 0, size);
                if (!from.equals(to)) {
                    text.append('w').append(from).append(to);
                    walls++;
                }
            }
        }
        return text.toString();
    }

    private void anotherPlan() {
        if (calls > CALLS - 220) {
            return;
        }
        same("wipe()", desk.wipe(), model.wipe());
        tell(planText());
        same("fault()", desk.fault(), model.fault());
        same("plan()", desk.plan(), model.plan());
    }

    /** A text that may have a fault, beside the plan that stands. */
    private void aText() {
        if (calls > CALLS - 220) {
            return;
        }
        if (below(3) > 0) {
            same("wipe()", desk.wipe(), model.wipe());
        }
        StringBuilder text = new StringBuilder(planText());
        for (int change = below(3); change > 0; change--) {
            String signs = "Lsfw0123456789 :/" + (char) 0 + (char) 255;
            text.setCharAt(below(text.length()), signs.charAt(below(signs.length())));
        }
        text.setLength(below(2) == 0 ? text.length() : below(text.length() + 1));
        tell(text.toString());
        same("fault()", desk.fault(), model.fault());
        if (below(4) == 0) {
            same("plan()", desk.plan(), model.plan());
        }
    }

    private void aCall() {
        switch (below(10)) {
            case 0:
            case 1:
            case 2:
                anAct();
                break;
            case 3:
            case 4:
                aLook();
                break;
            case 5:
                anAsk();
                break;
            case 6:
                aJudgement();
                break;
            case 7:
                aSight();
                break;
            case 8:
                aShare();
                break;
            default:
                aSlot();
        }
    }

    private void anAct() {
        int kind = below(10);
        if (kind < 4) {
            int spot = about(model.count(1));
            same("hang(" + spot + ")", desk.hang(spot), model.hang(spot));
        } else if (kind < 6) {
            int spot = about(model.count(1));
            same("die(" + spot + ")", desk.die(spot), model.die(spot));
        } else if (kind < 7) {
            int wall = about(model.count(3));
            same("build(" + wall + ")", desk.build(wall), model.build(wall));
        } else if (kind < 9) {
            int point = about(model.count(2));
            int v = about(below(2) == 0 ? 30 : 100);
            same("want(" + point + ", " + v + ")", desk.want(point, v), model.want(point, v));
        } else {
            for (int n = below(4); n >= 0; n--) {
                same("undo()", desk.undo(), model.undo());
            }
        }
    }

    private void aLook() {
        int spot = about(model.count(1));
        int point = about(model.count(2));
        int what = about(6);
        switch (below(6)) {
            case 0:
                same("spot(" + spot + ", " + what + ")", desk.spot(spot, what), model.spot(spot, what));
                break;
            case 1:
                same("point(" + point + ", " + what + ")", desk.point(point, what), model.point(point, what));
                break;
            case 2:
                same("light(" + spot + ", " + point + ")", desk.light(spot, point), model.light(spot, point));
                break;
            case 3:
                same("shade(" + spot + ", " + point + ")", desk.shade(spot, point), model.shade(spot, point));
                break;
            default:
                int which = about(11);
                same("count(" + which + ")", desk.count(which), model.count(which));
        }
    }

    private void anAsk() {
        int how = about(3);
        int what = about(3);
        if (below(2) == 0) {
            same("best(" + how + ", " + what + ")", desk.best(how, what), model.best(how, what));
        } else {
            same("ask(" + what + ")", desk.ask(what), model.ask(what));
        }
    }

    private long aDoing() {
        int spot = below(1 + model.count(1)), point = below(1 + model.count(2)), wall = below(1 + model.count(3));
        switch (below(9)) {
            case 0:
            case 1:
                return 1000 + 100 * spot;
            case 2:
                return 2000 + 100 * spot;
            case 3:
                return 3000 + 100 * wall;
            case 4:
                return 4000 + 100 * point + below(100);
            case 5:
                return 5000 + 100 * point + 10 * below(2);
            case 6:
                return 6000 + 100 * point + below(100);
            case 7:
                return 7000 + 100 * spot + 10 * point + below(2);
            default:
                return below(10000);
        }
    }

    private void aJudgement() {
        int n = below(30) == 0 ? about(5) : 1 + below(4);
        long row = 0;
        for (int i = 0; i < n && i < 4; i++) {
            row = row * 10000 + aDoing();
        }
        if (below(30) == 0) {
            row = random.nextLong();
        }
        same("judge(" + n + ", " + row + ")", desk.judge(n, row), model.judge(n, row));
    }

    private void aSight() {
        int kind = below(12);
        if (kind < 5) {
            int point = about(model.count(2));
            int sum = Math.max(0, model.point(point, 3));
            int v = below(3) > 0 ? Math.max(0, sum - below(40)) : about(1000);
            int was = about(2);
            same("see(" + point + ", " + v + ", " + was + ")", desk.see(point, v, was), model.see(point, v, was));
        } else if (kind < 11) {
            same("which()", desk.which(), model.which());
        } else {
            same("unsee()", desk.unsee(), model.unsee());
        }
    }

    private void aShare() {
        boolean upper = random.nextBoolean();
        switch (below(4)) {
            case 0:
                int spot = about(model.count(1));
                same("share(" + spot + ", " + upper + ")", desk.share(spot, upper), model.share(spot, upper));
                break;
            case 1:
                int x = about(11);
                same("chance(" + x + ", " + upper + ")", desk.chance(x, upper), model.chance(x, upper));
                break;
            case 2:
                int m = about(21);
                same("drawn(" + m + ")", desk.drawn(m), model.drawn(m));
                break;
            default:
                long v = below(2) == 0 ? random.nextLong() : below(10);
                same("seed(" + v + ")", desk.seed(v), model.seed(v));
        }
    }

    private void aSlot() {
        int slot = about(2);
        int kind = below(6);
        if (kind == 0) {
            same("again(" + slot + ")", desk.again(slot), model.again(slot));
        } else if (kind == 1) {
            same("keep(" + slot + ")", desk.keep(slot), model.keep(slot));
        }
    }
}
