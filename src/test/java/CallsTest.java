import java.util.function.ToIntFunction;
import java.util.function.ToLongFunction;

/** The boundaries that 'What it is', REFUSALS, FRACTIONS and the sections 'Promise 1' to 'Promise 27' name. */
public final class CallsTest {
    private static final int UNKNOWN = Checks.UNKNOWN, OUTSIDE = Checks.OUTSIDE, STATE = Checks.STATE;
    private static final int FULL = Checks.FULL, NONE = Checks.NONE;
    private static final String OWN = Checks.OWN;

    private static final Checks C = new Checks();

    public static void main(String[] args) {
        calls512();
        constants();
        bits();
        newObject();
        write();
        wipe();
        faultAndPlan();
        planLeavesAndTakes();
        planStartsAnew();
        planForgetsTheLast();
        spot();
        point();
        lightAndShade();
        hangAndDie();
        build();
        want();
        undo();
        best();
        ask();
        judge();
        see();
        unseeAndWhich();
        share();
        chance();
        seed();
        drawn();
        keepAndAgain();
        count();
        refusalsOfNewObjects();
        C.finish();
    }

    /** Three SPOTS, two POINTS, two WALLS; LAMPS, a dead one, a WALL away, a WANT, SLOT 0, two SEEN, a seed. */
    private static LampShares busy() {
        LampShares x = Checks.lit("L98765432102" + "s0023s2011s0155" + "f0020f1010" + "w1011w2021", 0, 1);
        x.die(1);
        x.build(1);
        x.keep(0);
        x.want(1, 12);
        x.see(0, 15, 1);
        x.see(1, 0, 1);
        x.seed(99);
        return x;
    }

    /** Busy, with 99 letters, 14 ACTS, six SEEN. */
    private static LampShares full() {
        LampShares x = busy();
        while (x.count(0) < 99) {
            x.write('x');
        }
        for (int acts = 4; acts < 14; acts++) {
            x.hang(2);
        }
        for (int seen = 2; seen < 6; seen++) {
            x.see(0, 0, 1);
        }
        return x;
    }

    /** A call that is refused leaves the desk as one is that was never called so. */
    private static void refused(String call, int due, ToIntFunction<LampShares> calls) {
        LampShares x = busy();
        C.due(call, calls.applyAsInt(x), due);
        C.same("changed by " + call, Checks.fate(x), Checks.fate(busy()));
    }

    private static void refusedByFull(String call, int due, ToIntFunction<LampShares> calls) {
        LampShares x = full();
        C.due(call, calls.applyAsInt(x), due);
        C.same("changed by " + call, Checks.fate(x), Checks.fate(full()));
    }

    private static void calls512() {
        C.part("An object is used for at most 512 calls after it has been made");
        String text = OWN + "s0011" + "f0009";
        LampShares x = Checks.desk(text);
        int calls = text.length() + 1;
        for (int hung = 1; calls < 511; hung = 1 - hung) {
            calls++;
            C.due("call " + calls + ", hang(0)", x.hang(0), hung);
        }
        C.due("call 512, count(9)", x.count(9), 14);
        eachAsThe512th();
    }

    private static void the512th(String call, long due, ToLongFunction<LampShares> calls) {
        String text = OWN + "s0011" + "f0009" + "w5566";
        LampShares x = Checks.desk(text);
        for (int made = text.length() + 1; made < 511; made++) {
            x.want(0, 9);
        }
        C.due("call 512, " + call, calls.applyAsLong(x), due);
    }

    private static void eachAsThe512th() {
        the512th("write('s')", 28, x -> x.write('s'));
        the512th("wipe()", 27, x -> x.wipe());
        the512th("fault()", NONE, x -> x.fault());
        the512th("plan()", 1, x -> x.plan());
        the512th("spot(0, 3)", 1, x -> x.spot(0, 3));
        the512th("point(0, 5)", 1, x -> x.point(0, 5));
        the512th("light(0, 0)", 9, x -> x.light(0, 0));
        the512th("shade(0, 0)", NONE, x -> x.shade(0, 0));
        the512th("hang(0)", 1, x -> x.hang(0));
        the512th("die(0)", STATE, x -> x.die(0));
        the512th("build(0)", 0, x -> x.build(0));
        the512th("want(0, 5)", 9, x -> x.want(0, 5));
        the512th("undo()", 13, x -> x.undo());
        the512th("best(0, 0)", 1, x -> x.best(0, 0));
        the512th("ask(0)", 0, x -> x.ask(0));
        the512th("judge(2, 1000 5010)", NONE, x -> x.judge(2, 1000_5010));
        the512th("see(0, 0, 0)", 1, x -> x.see(0, 0, 0));
        the512th("unsee()", 0, x -> x.unsee());
        the512th("which()", 0, x -> x.which());
        the512th("share(0, true)", STATE, x -> x.share(0, true));
        the512th("chance(5, false)", 1, x -> x.chance(5, false));
        the512th("seed(1)", 0, x -> x.seed(1));
        the512th("drawn(21)", OUTSIDE, x -> x.drawn(21));
        the512th("keep(0)", 0, x -> x.keep(0));
        the512th("again(0)", STATE, x -> x.again(0));
        the512th("count(9)", 14, x -> x.count(9));
    }

    private static void constants() {
        C.part("UNKNOWN = -1, OUTSIDE = -2, STATE = -3, FULL = -4, NONE = -9");
        C.due("UNKNOWN", LampShares.UNKNOWN, -1);
        C.due("OUTSIDE", LampShares.OUTSIDE, -2);
        C.due("STATE", LampShares.STATE, -3);
        C.due("FULL", LampShares.FULL, -4);
        C.due("NONE", LampShares.NONE, -9);
    }

    private static void bits() {
        C.part("Sets are told as bits");
        LampShares x = Checks.lit(OWN + "s0011".repeat(8) + "f0063".repeat(6) + "w0001".repeat(3), 0, 1, 2, 3, 4, 5, 6, 7);
        C.due("lamps", x.count(5), 255);
        C.due("walls", x.count(7), 7);
        C.due("points", x.count(8), 63);
        C.due("which", x.which(), 255);
        C.due("best", x.best(2, 0), 255);
        for (int spot = 0; spot < 8; spot++) {
            x.die(spot);
        }
        C.due("dead", x.count(6), 255);
        C.due("points", x.count(8), 0);
        C.due("which", x.which(), 0);
        C.due("all five walls", Checks.desk(OWN + "w0001".repeat(5)).count(7), 31);
    }

    private static void newObject() {
        C.part("Promise 1: No spots, no points, no walls");
        LampShares x = new LampShares();
        for (int what = 0; what <= 10; what++) {
            C.due("count(" + what + ")", x.count(what), 0);
        }
        for (int i = -1; i <= 8; i++) {
            C.due("hang(" + i + ")", x.hang(i), UNKNOWN);
            C.due("want(" + i + ", 0)", x.want(i, 0), UNKNOWN);
            C.due("build(" + i + ")", x.build(i), UNKNOWN);
        }
        LampShares other = Checks.lit(OWN + "s0011" + "f0000" + "w0001", 0);
        C.due("an object of its own", new LampShares().count(1), 0);
        C.due("the other one", other.count(5), 1);
    }

    private static void write() {
        C.part("Promise 2: A letter (0 to 255) comes behind THE TEXT: how long it is. OUTSIDE; FULL: there are 99");
        LampShares x = new LampShares();
        for (int letter = 0; letter <= 255; letter++) {
            C.due("write(" + letter + ")", x.write(letter), letter % 99 + 1);
            if (letter % 99 == 98) {
                C.due("wipe()", x.wipe(), 99);
            }
        }
        int[] outside = {-1, 256, 257, -256, 'L' + 256, 'L' - 256, 'L' + 65536, 'L' - 65536, Integer.MAX_VALUE, Integer.MIN_VALUE};
        for (int letter : outside) {
            refused("write(" + letter + ")", OUTSIDE, desk -> desk.write(letter));
            refusedByFull("write(" + letter + ") at 99", OUTSIDE, desk -> desk.write(letter));
        }
        refusedByFull("write at 99", FULL, desk -> desk.write('0'));
        refusedByFull("write(0) at 99", FULL, desk -> desk.write(0));
        refusedByFull("write(255) at 99", FULL, desk -> desk.write(255));
    }

    private static void wipe() {
        C.part("Promise 3: THE TEXT is empty: how long it was");
        LampShares x = new LampShares();
        C.due("wipe() of an empty text", x.wipe(), 0);
        x.write('L');
        C.due("wipe()", x.wipe(), 1);
        C.due("wipe() again", x.wipe(), 0);
        C.due("fault()", x.fault(), 0);
        Checks.tell(x, OWN + "s0011");
        x.plan();
        C.due("wipe()", x.wipe(), 17);
        C.due("the plan stays", x.count(1), 1);
        Checks.tell(x, OWN + "s");
        C.due("nothing of the old text is left", x.fault(), 13);
        C.due("plan()", x.plan(), STATE);
        LampShares full = full();
        C.due("wipe() of a full text", full.wipe(), 99);
        C.due("count(0)", full.count(0), 0);
        C.due("write", full.write('L'), 1);
    }

    private static void faultAndPlan() {
        C.part("Promise 4: FAULT; NONE. Promise 5: STATE: a FAULT");
        String[] faults = {"", "x", "L", "L0123456789", OWN + "s", OWN + "s0011f00", OWN + "x", OWN + "w1111",
            OWN + "s0011".repeat(9), OWN + "s6011", OWN + "s0010", OWN + "f0000".repeat(7), OWN + "w0001".repeat(6)};
        for (String text : faults) {
            LampShares x = new LampShares();
            Checks.tell(x, text);
            C.due("has a fault: " + text, x.fault() == NONE ? 1 : 0, 0);
            C.due("plan() of " + text, x.plan(), STATE);
            C.due("no spots", x.count(1), 0);
            LampShares told = busy();
            LampShares twin = busy();
            told.wipe();
            twin.wipe();
            Checks.tell(told, text);
            Checks.tell(twin, text);
            C.due("plan() of " + text, told.plan(), STATE);
            C.same("changed by plan() of " + text, Checks.fate(told), Checks.fate(twin));
        }
        LampShares x = new LampShares();
        Checks.tell(x, OWN + "s0011");
        C.due("fault()", x.fault(), NONE);
        C.due("fault() again", x.fault(), NONE);
        x.write('s');
        C.due("fault()", x.fault(), 18);
        Checks.tell(x, "5599");
        C.due("gone on", x.fault(), NONE);
        C.due("plan()", x.plan(), 2);
    }

    private static void planLeavesAndTakes() {
        C.part("Promise 5: THE TEXT (that stays as it is) is THE PLAN; SEEN, THE SEED stay");
        LampShares x = busy();
        x.keep(1);
        C.due("plan()", x.plan(), 3);
        C.due("the text stays", x.count(0), 47);
        C.due("and is still a plan", x.fault(), NONE);
        C.due("no lamps", x.count(5), 0);
        C.due("none dead", x.count(6), 0);
        C.due("all walls stand", x.count(7), 3);
        C.due("the row is empty", x.count(9), 0);
        C.due("undo()", x.undo(), STATE);
        C.due("slot 0 is gone", x.again(0), STATE);
        C.due("slot 1 is gone", x.again(1), STATE);
        C.due("the wants are the plan's", x.point(1, 2), 10);
        C.due("seen stays", x.count(10), 2);
        C.due("the seed stays", x.seed(1), 99);
        x.hang(0);
        x.hang(1);
        x.die(1);
        x.hang(1);
        x.plan();
        x.hang(1);
        C.due("not dead in another plan", x.spot(1, 4), 1);
    }

    private static void planStartsAnew() {
        C.part("Promise 5: how many SPOTS");
        LampShares x = new LampShares();
        for (int spots = 8; spots >= 0; spots -= 4) {
            x.wipe();
            Checks.tell(x, "L9000000000" + spots + "s1122".repeat(spots) + "f0000".repeat(spots / 2) + "w0001".repeat(spots / 2));
            C.due("plan()", x.plan(), spots);
            C.due("glow", x.count(4), spots);
            C.due("points", x.count(2), spots / 2);
            C.due("walls", x.count(3), spots / 2);
            C.due("walls that stand", x.count(7), (1 << spots / 2) - 1);
            C.due("no spot more", x.hang(spots), UNKNOWN);
            C.due("no point more", x.want(spots / 2, 1), UNKNOWN);
            C.due("no wall more", x.build(spots / 2), UNKNOWN);
            C.due("the last spot", x.hang(spots - 1), spots == 0 ? UNKNOWN : 1);
        }
        Checks.planAnew(x, OWN + "s0011" + "f0007" + "w5566");
        C.due("its cell", x.spot(0, 0), 0);
        C.due("its light", x.light(0, 0), 9);
        C.due("its want", x.point(0, 2), 7);
    }

    /** Eight strong SPOTS of an earlier PLAN, all asked about, serve nobody in the next. */
    private static void planForgetsTheLast() {
        C.part("Promise 5: THE TEXT is THE PLAN: nothing of the last one is left");
        LampShares x = Checks.lit("L99999999999" + "s0091".repeat(8) + "f0099" + "w0110" + "w5566", 0, 7);
        x.build(0);
        C.due("served by two", x.best(0, 2), 2);
        C.due("floor", x.point(0, 5), 2);
        C.due("share", x.share(7, false), 2);
        x.want(0, 9);
        C.due("served by glow, so by any set", x.best(0, 0), 0);
        Checks.planAnew(x, OWN + "f0009");
        for (int how = 0; how <= 2; how++) {
            C.due("best(" + how + ", 0) without spots", x.best(how, 0), NONE);
        }
        C.due("floor without spots", x.point(0, 5), NONE);
        C.due("chance without spots", x.chance(0, true), 0);
        Checks.planAnew(x, OWN + "s0011" + "s0011" + "f0027");
        C.due("best of two", x.best(0, 0), NONE);
        C.due("floor of two", x.point(0, 5), NONE);
        Checks.planAnew(x, OWN + "s0011" + "f0009" + "w5566" + "w5565");
        C.due("the old wall 0 shades no more", x.shade(0, 0), NONE);
        C.due("light", x.light(0, 0), 9);
        Checks.planAnew(x, OWN + "s0011" + "f0009" + "w5566" + "w0110");
        C.due("another wall shades", x.shade(0, 0), 1);
        Checks.planAnew(x, OWN + "s0011" + "f0009" + "w5566" + "w5565");
        C.due("that one no more", x.shade(0, 0), NONE);
    }

    private static void spot() {
        C.part("Promise 6: UNKNOWN; OUTSIDE");
        for (int spot : Checks.notBelow(3)) {
            refused("spot(" + spot + ", 0)", UNKNOWN, x -> x.spot(spot, 0));
            refused("spot(" + spot + ", 4)", UNKNOWN, x -> x.spot(spot, 4));
            refused("spot(" + spot + ", 5)", UNKNOWN, x -> x.spot(spot, 5));
        }
        for (int what : Checks.notBelow(5)) {
            refused("spot(0, " + what + ")", OUTSIDE, x -> x.spot(0, what));
            refused("spot(3, " + what + ")", UNKNOWN, x -> x.spot(3, what));
        }
        LampShares x = busy();
        int[][] due = {{0, 0, 2, 3, 1}, {2, 0, 1, 1, 2}, {0, 1, 5, 5, 0}};
        for (int spot = 0; spot < 3; spot++) {
            for (int what = 0; what < 5; what++) {
                C.due("spot(" + spot + ", " + what + ")", x.spot(spot, what), due[spot][what]);
            }
        }
        LampShares eight = Checks.desk(OWN + "s0011".repeat(8));
        C.due("the last of eight", eight.spot(7, 3), 1);
        C.due("a ninth", eight.spot(8, 3), UNKNOWN);
    }

    private static void point() {
        C.part("Promise 7: UNKNOWN; OUTSIDE");
        for (int point : Checks.notBelow(2)) {
            refused("point(" + point + ", 0)", UNKNOWN, x -> x.point(point, 0));
            refused("point(" + point + ", 5)", UNKNOWN, x -> x.point(point, 5));
            refused("point(" + point + ", 6)", UNKNOWN, x -> x.point(point, 6));
        }
        for (int what : Checks.notBelow(6)) {
            refused("point(0, " + what + ")", OUTSIDE, x -> x.point(0, what));
            refused("point(2, " + what + ")", UNKNOWN, x -> x.point(2, what));
        }
        LampShares x = busy();
        int[][] due = {{0, 0, 20, 20, 1, 3}, {1, 0, 12, 2, 0, NONE}};
        for (int point = 0; point < 2; point++) {
            for (int what = 0; what < 6; what++) {
                C.due("point(" + point + ", " + what + ")", x.point(point, what), due[point][what]);
            }
        }
        x.want(1, 10);
        C.due("floor of just so much", x.point(1, 5), 1);
        LampShares six = Checks.desk(OWN + "f0000".repeat(6));
        C.due("the last of six", six.point(5, 4), 1);
        C.due("a seventh", six.point(6, 4), UNKNOWN);
    }

    private static void lightAndShade() {
        C.part("Promises 8, 9: UNKNOWN: spot, point");
        for (int spot : Checks.notBelow(3)) {
            refused("light(" + spot + ", 0)", UNKNOWN, x -> x.light(spot, 0));
            refused("shade(" + spot + ", 0)", UNKNOWN, x -> x.shade(spot, 0));
            refused("light(" + spot + ", 2)", UNKNOWN, x -> x.light(spot, 2));
            refused("shade(" + spot + ", 2)", UNKNOWN, x -> x.shade(spot, 2));
        }
        for (int point : Checks.notBelow(2)) {
            refused("light(2, " + point + ")", UNKNOWN, x -> x.light(2, point));
            refused("shade(2, " + point + ")", UNKNOWN, x -> x.shade(2, point));
        }
        C.part("Promise 9: The least WALL by which the RAY is SHADED; NONE");
        LampShares x = Checks.desk(OWN + "s0011" + "f1000" + "w5556" + "w1011".repeat(4));
        for (int wall = 1; wall < 5; wall++) {
            C.due("the least that stands", x.shade(0, 0), wall);
            C.due("no light", x.light(0, 0), 0);
            x.build(wall);
        }
        C.due("none", x.shade(0, 0), NONE);
        x.build(4);
        C.due("the last", x.shade(0, 0), 4);
        x.build(2);
        C.due("the least", x.shade(0, 0), 2);
        LampShares most = Checks.desk(OWN + "s0011".repeat(8) + "f1000".repeat(6) + "w1011");
        C.due("the last of all", most.shade(7, 5), 0);
        most.build(0);
        C.due("far off without light, not shaded", Checks.desk(OWN + "s0011" + "f5000").shade(0, 0), NONE);
    }

    private static void hangAndDie() {
        C.part("Promises 10, 11: HUNG: how many LAMPS hang then. DIED: 1 if it is DEAD then, 0. UNKNOWN; STATE");
        for (int spot : Checks.notBelow(3)) {
            refused("hang(" + spot + ")", UNKNOWN, x -> x.hang(spot));
            refused("die(" + spot + ")", UNKNOWN, x -> x.die(spot));
            refusedByFull("hang(" + spot + ")", UNKNOWN, x -> x.hang(spot));
        }
        refused("die(2)", STATE, x -> x.die(2));
        refusedByFull("die(2)", STATE, x -> x.die(2));
        LampShares x = Checks.desk(OWN + "s0011".repeat(8));
        for (int spot = 0; spot < 8; spot++) {
            C.due("die ahead of hang", x.die(spot), STATE);
            C.due("hang(" + spot + ")", x.hang(spot), spot + 1);
            C.due("die(" + spot + ")", x.die(spot), 1);
        }
        for (int spot = 0; spot < 8; spot++) {
            C.due("mended", x.die(spot), 0);
            C.due("taken", x.hang(spot), 7 - spot);
            C.due("taken, it can not die", x.die(spot), STATE);
        }
        C.due("a ninth", x.hang(8), UNKNOWN);
        C.due("a ninth", x.die(8), UNKNOWN);
    }

    private static void build() {
        C.part("Promise 12: BUILT: 1 if it stands then, 0. UNKNOWN");
        for (int wall : Checks.notBelow(2)) {
            refused("build(" + wall + ")", UNKNOWN, x -> x.build(wall));
            refusedByFull("build(" + wall + ")", UNKNOWN, x -> x.build(wall));
        }
        LampShares x = Checks.desk(OWN + "w0001".repeat(5));
        for (int wall = 0; wall < 5; wall++) {
            C.due("build(" + wall + ")", x.build(wall), 0);
            C.due("bits", x.count(7), 31 - ((2 << wall) - 1));
        }
        for (int wall = 4; wall >= 0; wall--) {
            C.due("build(" + wall + ")", x.build(wall), 1);
        }
        C.due("all", x.count(7), 31);
        C.due("a sixth", x.build(5), UNKNOWN);
    }

    private static void want() {
        C.part("Promise 13: WANTED: what it was. UNKNOWN; OUTSIDE: v (0 to 99)");
        for (int point : Checks.notBelow(2)) {
            refused("want(" + point + ", 0)", UNKNOWN, x -> x.want(point, 0));
            refused("want(" + point + ", 100)", UNKNOWN, x -> x.want(point, 100));
            refusedByFull("want(" + point + ", -1)", UNKNOWN, x -> x.want(point, -1));
        }
        for (int v : Checks.notBelow(100)) {
            if (v < 0 || v > 99) {
                refused("want(1, " + v + ")", OUTSIDE, x -> x.want(1, v));
                refusedByFull("want(1, " + v + ")", OUTSIDE, x -> x.want(1, v));
            }
        }
        LampShares x = Checks.desk(OWN + "f0055".repeat(6));
        C.due("want(5, 0)", x.want(5, 0), 55);
        C.due("want(5, 99)", x.want(5, 99), 0);
        C.due("want(5, 99)", x.want(5, 99), 99);
        C.due("want(5, 1)", x.want(5, 1), 99);
        C.due("the others", x.point(4, 2), 55);
        C.due("a seventh", x.want(6, 1), UNKNOWN);
    }

    private static void undo() {
        C.part("Promise 14: The last ACT is undone: how many are left. STATE: there is none");
        C.due("a new object", new LampShares().undo(), STATE);
        C.due("a new plan", Checks.desk(OWN + "s0011").undo(), STATE);
        LampShares x = busy();
        for (int left = 4; left >= 0; left--) {
            C.due("undo()", x.undo(), left);
        }
        String before = Checks.look(x);
        C.due("undo()", x.undo(), STATE);
        C.same("nothing is changed", Checks.look(x), before);
        C.due("no lamps", x.count(5), 0);
        C.due("all walls", x.count(7), 3);
        C.due("its want", x.point(1, 2), 10);
        C.due("seen stays", x.count(10), 2);
        C.due("what is kept stays", x.again(0), 2);
        LampShares full = full();
        for (int left = 13; left >= 0; left--) {
            C.due("undo()", full.undo(), left);
        }
        C.due("undo()", full.undo(), STATE);
        C.due("the first one is forgotten", full.count(5), 1);
    }

    private static void best() {
        C.part("Promise 15: OUTSIDE: how, what");
        for (int odd : Checks.notBelow(3)) {
            refused("best(" + odd + ", 0)", OUTSIDE, x -> x.best(odd, 0));
            refused("best(0, " + odd + ")", OUTSIDE, x -> x.best(0, odd));
            refused("best(2, " + odd + ")", OUTSIDE, x -> x.best(2, odd));
            refused("best(" + odd + ", " + odd + ")", OUTSIDE, x -> x.best(odd, odd));
        }
        C.due("outside ahead of NONE", Checks.desk(OWN + "f0001").best(0, 3), OUTSIDE);
        C.due("a new object", new LampShares().best(3, 0), OUTSIDE);
    }

    private static void ask() {
        C.part("Promise 16: OUTSIDE");
        for (int odd : Checks.notBelow(3)) {
            refused("ask(" + odd + ")", OUTSIDE, x -> x.ask(odd));
            C.due("of a new object", new LampShares().ask(odd), OUTSIDE);
        }
    }

    private static void judge() {
        C.part("Promise 17: OUTSIDE: n, row (0 or more, 4 n figures at most)");
        int[] outside = {0, 5, 6, -1, 16, 256, Integer.MAX_VALUE, Integer.MIN_VALUE};
        for (int n : outside) {
            refused("judge(" + n + ", 0)", OUTSIDE, x -> x.judge(n, 0));
            refused("judge(" + n + ", 1000)", OUTSIDE, x -> x.judge(n, 1000));
            refused("judge(" + n + ", -1)", OUTSIDE, x -> x.judge(n, -1));
        }
        long above = 1;
        for (int n = 1; n <= 4; n++) {
            above = above * 10000;
            long[] rows = {above, above + 1, above + 1000, above * 10, -1, -1000, -above, Long.MIN_VALUE, Long.MAX_VALUE};
            int doings = n;
            for (long row : rows) {
                refused("judge(" + n + ", " + row + ")", OUTSIDE, x -> x.judge(doings, row));
            }
            C.due("the greatest row", busy().judge(n, above - 1), 0);
            C.due("the least row", busy().judge(n, 0), 0);
            C.due("of a new object", new LampShares().judge(n, above), OUTSIDE);
        }
        refused("five doings", OUTSIDE, x -> x.judge(4, 1000_1000_1000_1000L * 1000));
        C.due("four doings", busy().judge(4, 1000_1000_1000_1000L), NONE);
        C.due("a new object knows none", new LampShares().judge(1, 1000), 0);
    }

    private static void see() {
        C.part("Promise 18: UNKNOWN: point; OUTSIDE: v (0 to 999), was (0, 1); FULL: 6");
        for (int point : Checks.notBelow(2)) {
            refused("see(" + point + ", 0, 0)", UNKNOWN, x -> x.see(point, 0, 0));
            refused("see(" + point + ", 1000, 2)", UNKNOWN, x -> x.see(point, 1000, 2));
            refusedByFull("see(" + point + ", 0, 0)", UNKNOWN, x -> x.see(point, 0, 0));
            refusedByFull("see(" + point + ", -1, -1)", UNKNOWN, x -> x.see(point, -1, -1));
        }
        for (int v : new int[] {-1, 1000, 1001, 65536, Integer.MAX_VALUE, Integer.MIN_VALUE}) {
            refused("see(0, " + v + ", 0)", OUTSIDE, x -> x.see(0, v, 0));
            refusedByFull("see(0, " + v + ", 1)", OUTSIDE, x -> x.see(0, v, 1));
        }
        for (int was : new int[] {-1, 2, 3, 256, 257, Integer.MAX_VALUE, Integer.MIN_VALUE}) {
            refused("see(1, 0, " + was + ")", OUTSIDE, x -> x.see(1, 0, was));
            refusedByFull("see(1, 0, " + was + ")", OUTSIDE, x -> x.see(1, 0, was));
        }
        refusedByFull("see(0, 0, 0)", FULL, x -> x.see(0, 0, 0));
        refusedByFull("see(1, 999, 1)", FULL, x -> x.see(1, 999, 1));
        LampShares x = busy();
        C.due("see(1, 999, 0)", x.see(1, 999, 0), 3);
        C.due("see(0, 0, 1)", x.see(0, 0, 1), 4);
        C.due("see(0, 0, 1) again", x.see(0, 0, 1), 5);
        C.due("see(0, 999, 0)", x.see(0, 999, 0), 6);
        C.due("see(0, 0, 1)", x.see(0, 0, 1), FULL);
        C.due("seeing is no act", x.count(9), 5);
    }

    private static void unseeAndWhich() {
        C.part("Promise 19: Nothing is SEEN: how much there was. Promise 20: WHICH");
        LampShares x = full();
        C.due("unsee()", x.unsee(), 6);
        C.due("unsee() again", x.unsee(), 0);
        C.due("count(10)", x.count(10), 0);
        C.due("all that hang and live", x.which(), 1);
        x.die(1);
        C.due("mended", x.which(), 3);
        x.see(1, 999, 1);
        C.due("what is never so", x.which(), 0);
        C.due("unsee()", x.unsee(), 1);
        C.due("which()", x.which(), 3);
    }

    private static void share() {
        C.part("Promise 21: UNKNOWN; STATE: no LAMP hangs there, or it is DEAD; refusals are told likewise");
        for (int spot : Checks.notBelow(3)) {
            refused("share(" + spot + ", true)", UNKNOWN, x -> x.share(spot, true));
            refused("share(" + spot + ", false)", UNKNOWN, x -> x.share(spot, false));
        }
        refused("share(2, true)", STATE, x -> x.share(2, true));
        refused("share(2, false)", STATE, x -> x.share(2, false));
        refused("share(1, true), dead", STATE, x -> x.share(1, true));
        refused("share(1, false), dead", STATE, x -> x.share(1, false));
        LampShares x = busy();
        C.due("share(0, true)", x.share(0, true), 1);
        C.due("share(0, false)", x.share(0, false), 1);
        x.hang(0);
        C.due("taken", x.share(0, true), STATE);
        LampShares eight = Checks.lit(OWN + "s0011".repeat(8) + "f0072", 0, 1, 2, 3, 4, 5, 6, 7);
        C.due("the last of eight", eight.share(7, false), 8);
        C.due("a ninth", eight.share(8, false), UNKNOWN);
        C.part("FRACTIONS: 0 is 0 above, 1 below; in least terms");
        eight.want(0, 99);
        C.due("0 above", eight.share(7, true), 0);
        C.due("1 below", eight.share(7, false), 1);
        C.due("0 above", eight.chance(5, true), 0);
        C.due("1 below", eight.chance(5, false), 1);
    }

    private static void chance() {
        C.part("Promise 22: OUTSIDE: x; refusals are told likewise");
        for (int x : Checks.notBelow(11)) {
            refused("chance(" + x + ", true)", OUTSIDE, desk -> desk.chance(x, true));
            refused("chance(" + x + ", false)", OUTSIDE, desk -> desk.chance(x, false));
            C.due("of a new object", new LampShares().chance(x, false), OUTSIDE);
        }
        LampShares desk = busy();
        C.due("chance(0, true): point 1 is not served", desk.chance(0, true), 0);
        desk.want(1, 2);
        C.due("chance(0, true)", desk.chance(0, true), 1);
        C.due("chance(10, true)", desk.chance(10, true), 0);
        C.due("chance(10, false)", desk.chance(10, false), 1);
    }

    private static void seed() {
        C.part("Promise 23: THE SEED is v: what it was");
        LampShares x = new LampShares();
        long[] seeds = {0, Long.MAX_VALUE, Long.MIN_VALUE, -1, 1, 1L << 32, Integer.MIN_VALUE, 0};
        long before = 0;
        for (long seed : seeds) {
            C.due("seed(" + seed + ")", x.seed(seed), before);
            before = seed;
        }
        C.due("0 again", x.seed(7), 0);
    }

    private static void drawn() {
        C.part("Promise 24: OUTSIDE: m");
        for (int m : new int[] {0, -1, 21, 22, 256, Integer.MAX_VALUE, Integer.MIN_VALUE}) {
            refused("drawn(" + m + ")", OUTSIDE, x -> x.drawn(m));
            C.due("of a new object", new LampShares().drawn(m), OUTSIDE);
        }
        LampShares x = Checks.desk("L00000000009" + "f0099".repeat(6));
        int together = 0;
        for (int i = 0; i < 20; i++) {
            together += x.drawn(1);
        }
        x.seed(0);
        C.due("drawn(20)", x.drawn(20), together);
        C.due("no act", x.count(9), 0);
        C.due("the want stays", x.point(5, 2), 99);
    }

    private static void keepAndAgain() {
        C.part("Promises 25, 26: how many LAMPS hang. UNKNOWN; STATE: none were kept");
        for (int slot : Checks.notBelow(2)) {
            refused("keep(" + slot + ")", UNKNOWN, x -> x.keep(slot));
            refused("again(" + slot + ")", UNKNOWN, x -> x.again(slot));
            C.due("of a new object", new LampShares().again(slot), UNKNOWN);
        }
        refused("again(1)", STATE, x -> x.again(1));
        LampShares x = busy();
        C.due("keep(1)", x.keep(1), 2);
        C.due("no act", x.count(9), 5);
        x.hang(0);
        C.due("keep(1) anew", x.keep(1), 1);
        C.due("again(0): dead ones hang, too", x.again(0), 2);
        C.due("no acts", x.count(9), 0);
        C.due("the want as it was then", x.point(1, 2), 10);
        C.due("again(1)", x.again(1), 1);
        C.due("the want as it was then", x.point(1, 2), 12);
        x.plan();
        C.due("gone by another plan", x.again(0), STATE);
        C.due("gone by another plan", x.again(1), STATE);
        C.due("keep(0)", x.keep(0), 0);
        C.due("the other one is still gone", x.again(1), STATE);
    }

    private static void count() {
        C.part("Promise 27: OUTSIDE");
        for (int what : Checks.notBelow(11)) {
            refused("count(" + what + ")", OUTSIDE, x -> x.count(what));
            C.due("of a new object", new LampShares().count(what), OUTSIDE);
        }
        LampShares x = busy();
        int[] due = {47, 3, 2, 2, 2, 3, 2, 1, 1, 5, 2};
        for (int what = 0; what <= 10; what++) {
            C.due("count(" + what + ")", x.count(what), due[what]);
        }
        LampShares full = full();
        int[] most = {99, 3, 2, 2, 2, 3, 2, 1, 1, 14, 6};
        for (int what = 0; what <= 10; what++) {
            C.due("count(" + what + ") of a full one", full.count(what), most[what]);
        }
    }

    private static void refusalsOfNewObjects() {
        C.part("REFUSALS, of several the first that a call names");
        LampShares x = new LampShares();
        C.due("spot(0, 9)", x.spot(0, 9), UNKNOWN);
        C.due("point(0, 9)", x.point(0, 9), UNKNOWN);
        C.due("light(0, 0)", x.light(0, 0), UNKNOWN);
        C.due("shade(0, 0)", x.shade(0, 0), UNKNOWN);
        C.due("die(0)", x.die(0), UNKNOWN);
        C.due("want(0, 100)", x.want(0, 100), UNKNOWN);
        C.due("see(0, 1000, 2)", x.see(0, 1000, 2), UNKNOWN);
        C.due("share(0, true)", x.share(0, true), UNKNOWN);
        C.due("share(0, false)", x.share(0, false), UNKNOWN);
        C.due("again(2)", x.again(2), UNKNOWN);
        C.due("again(1)", x.again(1), STATE);
        C.due("plan()", x.plan(), STATE);
        LampShares spotsAlone = Checks.desk(OWN + "s0011");
        C.due("light(0, 0)", spotsAlone.light(0, 0), UNKNOWN);
        C.due("shade(0, 0)", spotsAlone.shade(0, 0), UNKNOWN);
        LampShares pointsAlone = Checks.desk(OWN + "f0000");
        C.due("light(0, 0)", pointsAlone.light(0, 0), UNKNOWN);
        C.due("shade(0, 0)", pointsAlone.shade(0, 0), UNKNOWN);
    }
}
