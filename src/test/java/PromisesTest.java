import java.math.BigInteger;

/** Each promise by answers worked out by hand: ordinary inputs, the edges, wrong inputs. */
public final class PromisesTest {
    private static final int UNKNOWN = -1, OUTSIDE = -2, STATE = -3, FULL = -4, NONE = -9;

    /** THE TABLE is 9 - q, GLOW 0; parts come behind. */
    private static final String HEAD = "L98765432100";
    /** GLOW 1; WALL 0 between CELLS 0, 0 and 1, 0, WALL 1 between 1, 0 and 2, 0; SPOT 2 is far off. */
    private static final String ROOM = "L98765432101" + "s0023" + "s2011" + "s5599" + "f0019" + "f1010" + "w1011" + "w2021";
    /** Only a LAMP in a POINT's own CELL lights it: one dear strong LAMP, two cheap weak ones. */
    private static final String PILE = "L90000000000" + "s0011" + "s0011" + "s0029" + "f0018";

    private static final Checks C = new Checks();

    public static void main(String[] args) {
        newObject();
        writeAndWipe();
        fault();
        plan();
        spot();
        point();
        lightAndShade();
        rays();
        hangAndDie();
        build();
        want();
        undo();
        best();
        askBest();
        askWorst();
        askEven();
        judgeDone();
        judgeWrong();
        seen();
        share();
        chance();
        seedAndDrawn();
        slots();
        count();
        C.finish();
    }

    private static void newObject() {
        C.part("1 new");
        LampShares x = new LampShares();
        for (int what = 0; what <= 10; what++) {
            C.due("count(" + what + ")", x.count(what), 0);
        }
        C.due("fault()", x.fault(), 0);
        C.due("spot(0, 0)", x.spot(0, 0), UNKNOWN);
        C.due("point(0, 0)", x.point(0, 0), UNKNOWN);
        C.due("build(0)", x.build(0), UNKNOWN);
        C.due("best(0, 0)", x.best(0, 0), 0);
        C.due("undo()", x.undo(), STATE);
        C.due("again(0)", x.again(0), STATE);
        C.due("seed(0)", x.seed(0), 0);
        C.due("chance(5, true)", x.chance(5, true), 1);
        C.due("NONE", LampShares.NONE, NONE);
    }

    private static void writeAndWipe() {
        C.part("2 write, 3 wipe");
        LampShares x = new LampShares();
        C.due("wipe()", x.wipe(), 0);
        C.due("write(0)", x.write(0), 1);
        C.due("write(255)", x.write(255), 2);
        C.due("write(256)", x.write(256), OUTSIDE);
        C.due("write(-1)", x.write(-1), OUTSIDE);
        C.due("write(least)", x.write(Integer.MIN_VALUE), OUTSIDE);
        C.due("count(0)", x.count(0), 2);
        for (int i = 3; i <= 99; i++) {
            C.due("write", x.write('0'), i);
        }
        C.due("write at 99", x.write('0'), FULL);
        C.due("write(256) at 99", x.write(256), OUTSIDE);
        C.due("count(0)", x.count(0), 99);
        C.due("wipe()", x.wipe(), 99);
        C.due("count(0)", x.count(0), 0);
        C.due("fault()", x.fault(), 0);
        C.due("write", x.write('L'), 1);
    }

    private static void faultIs(String text, int want) {
        LampShares x = new LampShares();
        Checks.tell(x, text);
        C.due("fault of " + text, x.fault(), want);
        C.due("plan of " + text, x.plan() == STATE ? 1 : 0, want == NONE ? 0 : 1);
    }

    private static void fault() {
        C.part("4 fault");
        faultIs("", 0);
        faultIs("l", 0);
        faultIs("s0011", 0);
        faultIs("L", 1);
        faultIs("L987x", 4);
        faultIs("L" + (char) ('0' - 1), 1);
        faultIs("L" + (char) ('9' + 1), 1);
        faultIs("L9876543210", 11);
        faultIs("L9876543210s", 11);
        faultIs(HEAD, NONE);
        faultIs(HEAD + "0", 12);
        faultIs(HEAD + "L", 12);
        faultIs(HEAD + " ", 12);
        faultIs(HEAD + (char) 255, 12);
        faultIs(HEAD + "s", 13);
        faultIs(HEAD + "s5511", NONE);
        faultIs(HEAD + "s6011", 13);
        faultIs(HEAD + "s0611", 14);
        faultIs(HEAD + "s0001", 15);
        faultIs(HEAD + "s0010", 16);
        faultIs(HEAD + "s0099", NONE);
        faultIs(HEAD + "s009", 16);
        faultIs(HEAD + "f5500f0099", NONE);
        faultIs(HEAD + "f6", 13);
        faultIs(HEAD + "f06", 14);
        faultIs(HEAD + "f00a0", 15);
        faultIs(HEAD + "f000s", 16);
        faultIs(HEAD + "w0066w6600", NONE);
        faultIs(HEAD + "w7", 13);
        faultIs(HEAD + "w07", 14);
        faultIs(HEAD + "w007", 15);
        faultIs(HEAD + "w0007", 16);
        faultIs(HEAD + "w121", 16);
        faultIs(HEAD + "w1212", 16);
        faultIs(HEAD + "w1221w1112w1222", NONE);
        faultIs(HEAD + "w1212x", 16);
        faultIs(HEAD + "s0011".repeat(8), NONE);
        faultIs(HEAD + "s0011".repeat(8) + "s", 52);
        faultIs(HEAD + "s0011".repeat(9), 52);
        faultIs(HEAD + "f0000".repeat(6) + "f0000", 42);
        faultIs(HEAD + "w0001".repeat(5) + "w0001", 37);
        faultIs(HEAD + "w0001".repeat(5) + "f0000".repeat(6) + "s0011".repeat(6), NONE);
        faultIs(HEAD + "w0001".repeat(5) + "f0000".repeat(6) + "s0011".repeat(6) + "s0", 99);
        faultIs(HEAD + "w0001".repeat(5) + "f0000".repeat(6) + "s0011".repeat(6) + "f0", 97);
    }

    private static void plan() {
        C.part("5 plan");
        LampShares x = Checks.desk(ROOM);
        C.due("plan() again", x.plan(), 3);
        C.due("text stays", x.count(0), ROOM.length());
        x.hang(0);
        x.hang(1);
        x.die(1);
        x.build(1);
        x.want(0, 5);
        x.keep(0);
        x.see(1, 5, 1);
        x.seed(77);
        x.write('x');
        String before = Checks.look(x);
        C.due("plan() of a fault", x.plan(), STATE);
        C.same("after a refused plan", Checks.look(x), before);
        x.wipe();
        C.due("plan() of an empty text", x.plan(), STATE);
        C.due("the old plan stands", x.count(1), 3);
        Checks.tell(x, ROOM);
        C.due("plan()", x.plan(), 3);
        C.due("no lamps", x.count(5), 0);
        C.due("none dead", x.count(6), 0);
        C.due("all walls", x.count(7), 3);
        C.due("wants", x.point(0, 2), 19);
        C.due("acts", x.count(9), 0);
        C.due("undo()", x.undo(), STATE);
        C.due("kept is gone", x.again(0), STATE);
        C.due("seen stays", x.count(10), 1);
        C.due("the seed stays", x.seed(0), 77);
        x.wipe();
        Checks.tell(x, HEAD);
        C.due("plan() of a bare head", x.plan(), 0);
        anotherPlanHasItsOwnRays();
        C.due("spots", x.count(1), 0);
        C.due("points", x.count(2), 0);
        C.due("walls", x.count(3), 0);
        C.due("walls that stand", x.count(7), 0);
        C.due("glow", x.count(4), 0);
        C.due("spot(0, 0)", x.spot(0, 0), UNKNOWN);
    }

    private static void anotherPlanHasItsOwnRays() {
        LampShares y = Checks.desk(HEAD + "s0011" + "f1000" + "w1011" + "w5556");
        C.due("shaded", y.shade(0, 0), 0);
        y.wipe();
        Checks.tell(y, HEAD + "s0011" + "f1000" + "w5556" + "w1011");
        y.plan();
        C.due("by the other wall", y.shade(0, 0), 1);
        C.due("no light", y.light(0, 0), 0);
    }

    private static void spot() {
        C.part("6 spot");
        LampShares x = Checks.desk(HEAD + "s1234s5098");
        int[] first = {1, 2, 3, 4, 0};
        int[] second = {5, 0, 9, 8, 0};
        for (int what = 0; what < 5; what++) {
            C.due("spot(0, " + what + ")", x.spot(0, what), first[what]);
            C.due("spot(1, " + what + ")", x.spot(1, what), second[what]);
        }
        x.hang(1);
        C.due("hung", x.spot(1, 4), 1);
        x.die(1);
        C.due("dead", x.spot(1, 4), 2);
        C.due("spot(2, 0)", x.spot(2, 0), UNKNOWN);
        C.due("spot(-1, 9)", x.spot(-1, 9), UNKNOWN);
        C.due("spot(0, 5)", x.spot(0, 5), OUTSIDE);
        C.due("spot(0, -1)", x.spot(0, -1), OUTSIDE);
    }

    private static void point() {
        C.part("7 point");
        LampShares x = Checks.desk(ROOM);
        int[] first = {0, 0, 19, 1, 0, 3};
        int[] second = {1, 0, 10, 1, 0, NONE};
        for (int what = 0; what < 6; what++) {
            C.due("point(0, " + what + ")", x.point(0, what), first[what]);
            C.due("point(1, " + what + ")", x.point(1, what), second[what]);
        }
        x.hang(0);
        C.due("sum", x.point(0, 3), 19);
        C.due("served at just its want", x.point(0, 4), 1);
        x.want(0, 20);
        C.due("not served one below", x.point(0, 4), 0);
        C.due("floor none", x.point(0, 5), NONE);
        x.build(0);
        x.build(1);
        C.due("floor of both", x.point(0, 5), 4);
        C.due("floor looks at no lamps", x.point(1, 5), 3);
        x.want(1, 9);
        C.due("floor of the cheaper", x.point(1, 5), 1);
        x.want(1, 1);
        C.due("floor by glow", x.point(1, 5), 0);
        x.die(0);
        C.due("the dead give no light", x.point(0, 3), 1);
        C.due("point(2, 0)", x.point(2, 0), UNKNOWN);
        C.due("point(-1, 7)", x.point(-1, 7), UNKNOWN);
        C.due("point(0, 6)", x.point(0, 6), OUTSIDE);
        C.due("point(0, -1)", x.point(0, -1), OUTSIDE);
    }

    private static void lightAndShade() {
        C.part("8 light, 9 shade");
        LampShares x = Checks.desk(ROOM);
        C.due("light(0, 0)", x.light(0, 0), 18);
        C.due("light(0, 1)", x.light(0, 1), 0);
        C.due("shade(0, 0)", x.shade(0, 0), NONE);
        C.due("shade(0, 1)", x.shade(0, 1), 0);
        C.due("shade(1, 0)", x.shade(1, 0), 0);
        C.due("shade(1, 1)", x.shade(1, 1), 1);
        C.due("an end of a wall", x.shade(2, 0), 0);
        C.due("far off, not shaded", x.shade(2, 1), NONE);
        C.due("far off, no light", x.light(2, 1), 0);
        x.build(0);
        C.due("light(0, 1)", x.light(0, 1), 16);
        C.due("the next wall", x.shade(1, 0), 1);
        x.build(1);
        C.due("light(1, 0)", x.light(1, 0), 5);
        C.due("shade(1, 0)", x.shade(1, 0), NONE);
        C.due("lamps don't matter", x.light(1, 1), 8);
        C.due("light(3, 0)", x.light(3, 0), UNKNOWN);
        C.due("light(0, 2)", x.light(0, 2), UNKNOWN);
        C.due("light(-1, -1)", x.light(-1, -1), UNKNOWN);
        C.due("shade(3, 0)", x.shade(3, 0), UNKNOWN);
        C.due("shade(0, 2)", x.shade(0, 2), UNKNOWN);
        C.due("shade(0, -1)", x.shade(0, -1), UNKNOWN);
        LampShares table = Checks.desk("L12345678960s0021f0300f1300f2200");
        C.due("q = 9", table.light(0, 0), 12);
        C.due("q = 10", table.light(0, 1), 0);
        C.due("q = 8", table.light(0, 2), 18);
    }

    private static void rays() {
        C.part("rays");
        shadeIs("s0011f0000", "w0011", true);
        shadeIs("s0011f0000", "w0110", true);
        shadeIs("s0011f0000", "w1166", false);
        shadeIs("s0011f0000", "w0001", false);
        shadeIs("s1111f1100", "w0033", true);
        shadeIs("s0011f3300", "w1122", true);
        shadeIs("s0011f3300", "w4455", false);
        shadeIs("s0011f3300", "w0133", true);
        shadeIs("s0011f3300", "w1243", true);
        shadeIs("s0011f3300", "w1244", false);
        shadeIs("s0011f3300", "w3445", false);
        shadeIs("s0011f0500", "w0333", true);
        shadeIs("s0011f0500", "w1333", false);
        shadeIs("s0011f0500", "w0010", false);
        shadeIs("s3011f0100", "w2106", true);
        shadeIs("s0011f2100", "w0121", true);
        shadeIs("s0011f2100", "w2131", false);
        shadeIs("s0011f2100", "w1011", true);
        shadeIs("s0011f2000", "w1112", false);
    }

    private static void shadeIs(String ends, String wall, boolean shaded) {
        LampShares x = Checks.desk(HEAD + ends + wall);
        C.due("shade of " + ends + wall, x.shade(0, 0), shaded ? 0 : NONE);
    }

    private static void hangAndDie() {
        C.part("10 hang, 11 die");
        LampShares x = Checks.desk(ROOM);
        C.due("die(0) without a lamp", x.die(0), STATE);
        C.due("hang(2)", x.hang(2), 1);
        C.due("hang(0)", x.hang(0), 2);
        C.due("die(0)", x.die(0), 1);
        C.due("bits", x.count(6), 1);
        C.due("the dead hang", x.count(5), 5);
        C.due("die(0)", x.die(0), 0);
        C.due("die(0)", x.die(0), 1);
        C.due("taken", x.hang(0), 1);
        C.due("none dead", x.count(6), 0);
        C.due("die(0)", x.die(0), STATE);
        C.due("hung again", x.hang(0), 2);
        C.due("not dead", x.spot(0, 4), 1);
        String before = Checks.look(x);
        C.due("hang(3)", x.hang(3), UNKNOWN);
        C.due("hang(-1)", x.hang(-1), UNKNOWN);
        C.due("die(3)", x.die(3), UNKNOWN);
        C.due("die(1)", x.die(1), STATE);
        C.same("after refusals", Checks.look(x), before);
        C.due("hang(32)", x.hang(32), UNKNOWN);
    }

    private static void build() {
        C.part("12 build");
        LampShares x = Checks.desk(ROOM);
        C.due("all stand", x.count(7), 3);
        C.due("build(1)", x.build(1), 0);
        C.due("bits", x.count(7), 1);
        C.due("build(1)", x.build(1), 1);
        C.due("build(2)", x.build(2), UNKNOWN);
        C.due("build(-1)", x.build(-1), UNKNOWN);
        C.due("acts", x.count(9), 2);
        C.due("bits", x.count(7), 3);
    }

    private static void want() {
        C.part("13 want");
        LampShares x = Checks.desk(ROOM);
        C.due("want(0, 99)", x.want(0, 99), 19);
        C.due("want(0, 0)", x.want(0, 0), 99);
        C.due("want(0, 0) too", x.want(0, 0), 0);
        C.due("acts", x.count(9), 3);
        C.due("want(0, 100)", x.want(0, 100), OUTSIDE);
        C.due("want(0, -1)", x.want(0, -1), OUTSIDE);
        C.due("want(2, 100)", x.want(2, 100), UNKNOWN);
        C.due("want(-1, 0)", x.want(-1, 0), UNKNOWN);
        C.due("acts", x.count(9), 3);
        C.due("the want", x.point(0, 2), 0);
    }

    private static void undo() {
        C.part("14 undo");
        LampShares x = Checks.desk(ROOM);
        String bare = Checks.look(x);
        x.hang(0);
        x.die(0);
        String dead = Checks.look(x);
        x.hang(0);
        x.build(0);
        x.want(1, 4);
        C.due("undo want", x.undo(), 4);
        C.due("its want", x.point(1, 2), 10);
        C.due("undo build", x.undo(), 3);
        C.due("undo taking the dead", x.undo(), 2);
        C.same("dead again", Checks.look(x), dead);
        C.due("undo die", x.undo(), 1);
        C.due("lives", x.spot(0, 4), 1);
        C.due("undo hang", x.undo(), 0);
        C.same("as at first", Checks.look(x), bare);
        C.due("undo()", x.undo(), STATE);
        for (int i = 1; i <= 16; i++) {
            x.want(0, i);
        }
        C.due("never more than 14", x.count(9), 14);
        for (int i = 13; i >= 0; i--) {
            C.due("undo()", x.undo(), i);
        }
        C.due("the first two are forgotten", x.point(0, 2), 2);
        C.due("undo()", x.undo(), STATE);
        C.due("still", x.point(0, 2), 2);
    }

    private static void bestIs(LampShares x, int how, int set, int price, int spots) {
        C.due("best(" + how + ", 0)", x.best(how, 0), set);
        C.due("best(" + how + ", 1)", x.best(how, 1), price);
        C.due("best(" + how + ", 2)", x.best(how, 2), spots);
    }

    private static void best() {
        C.part("15 best");
        LampShares x = Checks.desk(PILE);
        bestIs(x, 0, 4, 9, 1);
        bestIs(x, 1, 3, 2, 2);
        bestIs(x, 2, 7, 11, 3);
        x.hang(0);
        x.die(0);
        bestIs(x, 1, 3, 2, 2);
        x.want(0, 19);
        bestIs(x, 0, 5, 10, 2);
        bestIs(x, 2, NONE, NONE, NONE);
        x.want(0, 37);
        bestIs(x, 0, NONE, NONE, NONE);
        bestIs(x, 1, NONE, NONE, NONE);
        x.want(0, 0);
        bestIs(x, 0, 0, 0, 0);
        bestIs(x, 2, 0, 0, 0);
        x.want(0, 9);
        bestIs(x, 0, 1, 1, 1);
        bestIs(x, 2, 3, 2, 2);
        C.due("best(3, 0)", x.best(3, 0), OUTSIDE);
        C.due("best(-1, 0)", x.best(-1, 0), OUTSIDE);
        C.due("best(0, 3)", x.best(0, 3), OUTSIDE);
        C.due("best(0, -1)", x.best(0, -1), OUTSIDE);
        LampShares likes = Checks.desk("L90000000000" + "s0012" + "s0012" + "s0011" + "s0021" + "f0018");
        bestIs(likes, 0, 8, 1, 1);
        likes.want(0, 27);
        bestIs(likes, 0, 12, 2, 2);
        likes.want(0, 36);
        bestIs(likes, 0, 13, 4, 3);
        LampShares walled = Checks.desk(ROOM);
        bestIs(walled, 0, NONE, NONE, NONE);
        walled.build(0);
        bestIs(walled, 0, 1, 3, 1);
        LampShares lone = Checks.desk("L90000000000");
        bestIs(lone, 2, 0, 0, 0);
    }

    private static void askBest() {
        C.part("16 BEST");
        LampShares x = Checks.desk(PILE);
        C.due("serves the point", x.ask(0), 2);
        x.hang(0);
        C.due("serves more by sums", x.ask(0), 2);
        x.hang(2);
        C.due("what is left", x.ask(0), 1);
        x.hang(2);
        x.die(0);
        C.due("the dead hang still", x.ask(0), 2);
        x.hang(1);
        x.hang(2);
        C.due("all have lamps", x.ask(0), NONE);
        LampShares likes = Checks.desk(HEAD + "s5511" + "s5511" + "f0099");
        C.due("the least of like ones", likes.ask(0), 0);
        likes.hang(0);
        C.due("the other", likes.ask(0), 1);
        LampShares sums = Checks.desk(HEAD + "s5511" + "s0011" + "f0099");
        C.due("most light", sums.ask(0), 1);
        LampShares three = Checks.desk(HEAD + "s5511" + "s0091" + "s0011" + "f0099");
        C.due("the most of several", three.ask(0), 1);
        LampShares counts = Checks.desk(HEAD + "s0091" + "s5511" + "f0099" + "f5509");
        C.due("served ahead of light", counts.ask(0), 1);
        C.due("none without spots", Checks.desk(HEAD + "f0000").ask(0), NONE);
        C.due("ask(3)", x.ask(3), OUTSIDE);
        C.due("ask(-1)", x.ask(-1), OUTSIDE);
        C.due("nothing is changed", x.count(9), 6);
    }

    private static void askWorst() {
        C.part("16 WORST");
        LampShares x = Checks.desk(ROOM);
        C.due("all alike", x.ask(1), 0);
        x.hang(1);
        C.due("that which takes light", x.ask(1), 1);
        x.hang(0);
        C.due("that which takes the want", x.ask(1), 0);
        x.build(0);
        C.due("the other", x.ask(1), 1);
        x.build(1);
        C.due("none stands", x.ask(1), NONE);
        C.due("no walls", Checks.desk(HEAD).ask(1), NONE);
    }

    private static void askEven() {
        C.part("16 EVEN");
        LampShares x = Checks.desk(ROOM);
        C.due("alike", x.ask(2), Float.floatToIntBits(1f));
        x.hang(0);
        C.due("1 / 19", x.ask(2), Float.floatToIntBits(1 / (float) 19));
        x.build(0);
        C.due("17 / 19", x.ask(2), Float.floatToIntBits(17 / (float) 19));
        C.due("no points", Checks.desk(HEAD).ask(2), NONE);
        LampShares dark = Checks.desk(HEAD + "s0011" + "f0000" + "f5500");
        C.due("all dark", dark.ask(2), NONE);
        dark.hang(0);
        C.due("0 / 9", dark.ask(2), 0);
        // All quotients that POINTS may have: k / n by lamps of one light each.
        for (int lamps = 1; lamps <= 8; lamps++) {
            for (int glow = 1; glow <= 9; glow++) {
                LampShares y = Checks.desk("L9000000000" + glow + "s0091".repeat(lamps) + "f0000" + "f5500");
                for (int hung = 0; hung < lamps; hung++) {
                    y.hang(hung);
                    float even = glow / (float) (glow + 81 * (hung + 1));
                    C.due("glow " + glow + " lamps " + (hung + 1), y.ask(2), Float.floatToIntBits(even));
                }
            }
        }
    }

    private static void judgeDone() {
        C.part("17 judge");
        LampShares x = Checks.desk(ROOM);
        String before = Checks.look(x);
        C.due("hung, served", x.judge(2, 1000_5010L), NONE);
        C.due("not served", x.judge(1, 5000L), NONE);
        C.due("hung, served, not served", x.judge(3, 1000_5010_5000L), 2);
        C.due("sum just so", x.judge(2, 1000_4019L), NONE);
        C.due("sum is less", x.judge(2, 1000_4020L), 1);
        C.due("hung, dead, dark", x.judge(3, 1000_2000_4002L), 2);
        C.due("dead and mended", x.judge(4, 1000_2000_2000_4019L), NONE);
        C.due("hung, dead, taken, hung", x.judge(4, 2000_1000_1000_4019L), 0);
        C.due("taken, can't die", x.judge(3, 1000_1000_2000L), 2);
        C.due("shaded", x.judge(1, 7011L), NONE);
        C.due("wall away, not shaded", x.judge(2, 3000_7010L), NONE);
        C.due("shaded, not so", x.judge(1, 7010L), 0);
        C.due("wanted, served", x.judge(2, 6001_5010L), NONE);
        C.due("wanted 99", x.judge(2, 6099_5000L), NONE);
        C.due("hung, wanted 19, served", x.judge(3, 1000_6019_5010L), NONE);
        C.due("hung, wanted 20, not served", x.judge(3, 1000_6020_5000L), NONE);
        C.due("none of n = 4", x.judge(4, 3000_3000_3100_3100L), NONE);
        C.same("nothing is changed", Checks.look(x), before);
        x.hang(0);
        C.due("as it stands", x.judge(1, 2000L), NONE);
        C.due("taken", x.judge(2, 1000_5000L), NONE);
    }

    private static void judgeWrong() {
        C.part("17 judge, wrong");
        LampShares x = Checks.desk(ROOM);
        x.hang(0);
        long[] cannot = {0, 8000, 9000, 1300, 1001, 1010, 2300, 2001, 2010, 2100, 3200, 3001, 3010,
            4200, 5200, 5020, 5001, 5011, 6200, 7300, 7020, 7012, 7019};
        for (long doing : cannot) {
            C.due("judge(1, " + doing + ")", x.judge(1, doing), 0);
            C.due("judge(2, 1000 " + doing + ")", x.judge(2, 1000_0000L + doing), 1);
        }
        C.due("the first one", x.judge(2, 0L), 0);
        C.due("n = 0", x.judge(0, 0L), OUTSIDE);
        C.due("n = 5", x.judge(5, 1000L), OUTSIDE);
        C.due("n = -1", x.judge(-1, 1000L), OUTSIDE);
        C.due("row < 0", x.judge(1, -1L), OUTSIDE);
        C.due("row least", x.judge(4, Long.MIN_VALUE), OUTSIDE);
        C.due("row greatest", x.judge(4, Long.MAX_VALUE), OUTSIDE);
        C.due("five figures", x.judge(1, 10000L), OUTSIDE);
        C.due("four figures", x.judge(1, 9999L), 0);
        C.due("nine figures", x.judge(2, 100000000L), OUTSIDE);
        C.due("thirteen figures", x.judge(3, 1000000000000L), OUTSIDE);
        C.due("seventeen figures", x.judge(4, 10000000000000000L), OUTSIDE);
        C.due("sixteen figures", x.judge(4, 9999999999999999L), 0);
        C.due("nothing is changed", x.count(5), 1);
        C.due("no acts", x.count(9), 1);
    }

    private static void seen() {
        C.part("18 see, 19 unsee, 20 which");
        LampShares x = Checks.desk(PILE);
        C.due("no lamps", x.which(), 0);
        x.hang(0);
        x.hang(1);
        x.hang(2);
        C.due("nothing seen", x.which(), 7);
        C.due("see(1, 0, 0)", x.see(1, 0, 0), UNKNOWN);
        C.due("see(-1, 1000, 0)", x.see(-1, 1000, 0), UNKNOWN);
        C.due("see(0, 1000, 0)", x.see(0, 1000, 0), OUTSIDE);
        C.due("see(0, -1, 0)", x.see(0, -1, 0), OUTSIDE);
        C.due("see(0, 0, 2)", x.see(0, 0, 2), OUTSIDE);
        C.due("see(0, 0, -1)", x.see(0, 0, -1), OUTSIDE);
        C.due("none", x.count(10), 0);
        C.due("see(0, 27, 1)", x.see(0, 27, 1), 1);
        C.due("a weak one", x.which(), 3);
        C.due("see(0, 28, 0)", x.see(0, 28, 0), 2);
        C.due("still", x.which(), 3);
        x.die(0);
        C.due("as all stands when asked", x.which(), 0);
        x.die(0);
        C.due("see(0, 27, 0)", x.see(0, 27, 0), 3);
        C.due("none can be", x.which(), 0);
        x.unsee();
        C.due("see(0, 19, 0)", x.see(0, 19, 0), 1);
        C.due("the strong one", x.which(), 4);
        x.hang(0);
        C.due("one is taken", x.which(), 6);
        for (int i = 2; i <= 6; i++) {
            C.due("see(0, 999, 0)", x.see(0, 999, 0), i);
        }
        C.due("full", x.see(0, 0, 0), FULL);
        C.due("outside ahead of full", x.see(0, 1000, 0), OUTSIDE);
        C.due("unknown ahead of full", x.see(9, 0, 0), UNKNOWN);
        C.due("count", x.count(10), 6);
        C.due("unsee()", x.unsee(), 6);
        C.due("unsee()", x.unsee(), 0);
        seenByAnotherPlan();
    }

    private static void seenByAnotherPlan() {
        LampShares x = Checks.desk(PILE + "f0000");
        x.see(1, 999, 1);
        x.hang(0);
        C.due("can't be", x.which(), 0);
        x.wipe();
        Checks.tell(x, PILE);
        x.plan();
        x.hang(0);
        C.due("no such point any more", x.which(), 1);
        C.due("it is still seen", x.count(10), 1);
        Checks.tell(x, "f0000");
        x.plan();
        x.hang(0);
        C.due("there is one again", x.which(), 0);
    }

    private static void shareIs(LampShares x, int spot, int above, int below) {
        C.due("share(" + spot + ", true)", x.share(spot, true), above);
        C.due("share(" + spot + ", false)", x.share(spot, false), below);
    }

    private static void share() {
        C.part("21 share");
        LampShares x = Checks.desk(PILE);
        shareIs(x, 0, STATE, STATE);
        shareIs(x, 3, UNKNOWN, UNKNOWN);
        shareIs(x, -1, UNKNOWN, UNKNOWN);
        x.hang(0);
        shareIs(x, 0, 0, 1);
        x.hang(1);
        shareIs(x, 0, 1, 2);
        x.hang(2);
        shareIs(x, 0, 1, 6);
        shareIs(x, 1, 1, 6);
        shareIs(x, 2, 2, 3);
        x.die(0);
        shareIs(x, 0, STATE, STATE);
        shareIs(x, 1, 0, 1);
        shareIs(x, 2, 1, 1);
        LampShares eight = Checks.desk("L90000000000" + "s0011".repeat(8) + "f0072" + "f0036" + "f0000");
        for (int spot = 0; spot < 8; spot++) {
            eight.hang(spot);
        }
        shareIs(eight, 7, 1, 4);
        eight.hang(6);
        shareIs(eight, 7, 1, 7);
    }

    private static void chanceIs(LampShares x, int tenths, int above, int below) {
        C.due("chance(" + tenths + ", true)", x.chance(tenths, true), above);
        C.due("chance(" + tenths + ", false)", x.chance(tenths, false), below);
    }

    private static void chance() {
        C.part("22 chance");
        LampShares x = Checks.desk(PILE);
        chanceIs(x, 0, 0, 1);
        x.hang(0);
        x.hang(1);
        x.hang(2);
        chanceIs(x, 0, 1, 1);
        chanceIs(x, 3, 847, 1000);
        chanceIs(x, 5, 5, 8);
        chanceIs(x, 10, 0, 1);
        x.die(2);
        chanceIs(x, 3, 49, 100);
        x.want(0, 0);
        chanceIs(x, 10, 1, 1);
        chanceIs(x, 7, 1, 1);
        chanceIs(x, 11, OUTSIDE, OUTSIDE);
        chanceIs(x, -1, OUTSIDE, OUTSIDE);
        LampShares eight = Checks.desk("L90000000000" + "s0011".repeat(8) + "f0072");
        for (int spot = 0; spot < 8; spot++) {
            eight.hang(spot);
        }
        chanceIs(eight, 1, 43046721, 100000000);
        chanceIs(eight, 5, 1, 256);
        eight.want(0, 9);
        chanceIs(eight, 1, 99999999, 100000000);
    }

    private static void seedAndDrawn() {
        C.part("23 seed, 24 drawn");
        LampShares x = Checks.desk("L90000000009" + "s0011" + "f0000" + "f1199" + "f2299" + "f3399" + "f4499" + "f5599");
        C.due("seed(least)", x.seed(Long.MIN_VALUE), 0);
        C.due("seed(greatest)", x.seed(Long.MAX_VALUE), Long.MIN_VALUE);
        C.due("seed(5)", x.seed(5), Long.MAX_VALUE);
        C.due("drawn(0)", x.drawn(0), OUTSIDE);
        C.due("drawn(21)", x.drawn(21), OUTSIDE);
        C.due("drawn(-1)", x.drawn(-1), OUTSIDE);
        C.due("no draw", x.seed(5), 5);
        x.hang(0);
        BigInteger seed = BigInteger.valueOf(5);
        int served = 0;
        for (int time = 0; time < 20; time++) {
            seed = seed.multiply(new BigInteger("6364136223846793005")).add(new BigInteger("1442695040888963407"));
            seed = seed.mod(BigInteger.ONE.shiftLeft(64));
            for (int point = 0; point < 6; point++) {
                int want = seed.shiftRight(33 + 5 * point).intValue() & 31;
                served += (point == 0 ? 18 : 9) >= want ? 1 : 0;
            }
        }
        String before = Checks.look(x);
        C.due("drawn(20)", x.drawn(20), served);
        C.due("the seed", x.seed(5), seed.longValue());
        C.same("nothing changes but the seed", Checks.look(x), before);
        int together = x.drawn(1);
        together += x.drawn(19);
        C.due("in two goes", together, served);
        C.due("no points", Checks.desk(HEAD).drawn(20), 0);
    }

    private static void slots() {
        C.part("25 keep, 26 again");
        LampShares x = Checks.desk(ROOM);
        C.due("keep(2)", x.keep(2), UNKNOWN);
        C.due("keep(-1)", x.keep(-1), UNKNOWN);
        C.due("again(2)", x.again(2), UNKNOWN);
        C.due("again(-1)", x.again(-1), UNKNOWN);
        C.due("again(0)", x.again(0), STATE);
        C.due("again(1)", x.again(1), STATE);
        C.due("keep(1)", x.keep(1), 0);
        C.due("again(0)", x.again(0), STATE);
        x.hang(0);
        x.hang(2);
        x.die(2);
        x.build(1);
        x.want(1, 55);
        C.due("keep(0)", x.keep(0), 2);
        C.due("the row stays", x.count(9), 5);
        C.due("again(1)", x.again(1), 0);
        C.due("the row is empty", x.count(9), 0);
        C.due("undo()", x.undo(), STATE);
        C.due("lamps", x.count(5), 0);
        C.due("none dead", x.count(6), 0);
        C.due("walls", x.count(7), 3);
        C.due("want", x.point(1, 2), 10);
        C.due("again(0)", x.again(0), 2);
        C.due("lamps", x.count(5), 5);
        C.due("dead", x.count(6), 4);
        C.due("walls", x.count(7), 1);
        C.due("want", x.point(1, 2), 55);
        x.hang(1);
        C.due("what is kept stays as kept", x.again(0), 2);
        x.hang(1);
        C.due("kept anew", x.keep(0), 3);
        x.hang(1);
        C.due("again(0)", x.again(0), 3);
    }

    private static void count() {
        C.part("27 count");
        LampShares x = Checks.desk("L98765432107" + "s0023" + "s2011" + "f0000" + "f1099" + "f2007" + "w1011");
        x.hang(1);
        x.hang(0);
        x.die(1);
        x.see(0, 5, 1);
        x.see(0, 5, 1);
        int[] due = {42, 2, 3, 1, 7, 3, 2, 1, 5, 3, 2};
        for (int what = 0; what < due.length; what++) {
            C.due("count(" + what + ")", x.count(what), due[what]);
        }
        C.due("count(11)", x.count(11), OUTSIDE);
        C.due("count(-1)", x.count(-1), OUTSIDE);
    }
}
