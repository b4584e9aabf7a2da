import java.math.BigInteger;
import java.util.function.ToLongFunction;

/** The boundaries that 'Terms', parts 2 to 4, names: what is asked, SEEN, SHARES, CHANCES, draws, SLOTS. */
public final class AskedTermsTest {
    private static final int STATE = Checks.STATE, FULL = Checks.FULL, NONE = Checks.NONE;
    private static final String OWN = Checks.OWN, FALLING = Checks.FALLING;

    private static final Checks C = new Checks();

    public static void main(String[] args) {
        nothingIsChanged();
        wallsAsTheyStand();
        serves();
        fewest();
        cheapest();
        safe();
        noSet();
        floors();
        bestSpot();
        bestOfLikeOnes();
        noBestSpot();
        worstWall();
        noWorstWall();
        even();
        evenOfAllQuotients();
        judgedDoings();
        judgedAsked();
        judgedPlaces();
        judgedThatCanNotBe();
        seenWhenAsked();
        seenAtMostSix();
        seenByAnotherPlan();
        which();
        shares();
        chances();
        chanceEdges();
        draws();
        seedWraps();
        slotsKeep();
        slotsGoOn();
        wallsThroughTheMidst();
        whatLooksAtLamps();
        C.finish();
    }

    private static void bestIs(LampShares x, int how, int set, int price, int spots) {
        C.due("best(" + how + ", 0)", x.best(how, 0), set);
        C.due("best(" + how + ", 1)", x.best(how, 1), price);
        C.due("best(" + how + ", 2)", x.best(how, 2), spots);
    }

    private static LampShares busy() {
        LampShares x = Checks.lit("L98765432102" + "s0023s2011s0155" + "f0020f1010" + "w1011w2021", 0, 1, 2);
        x.die(1);
        x.build(1);
        x.keep(1);
        x.want(1, 12);
        x.see(0, 15, 1);
        x.seed(99);
        return x;
    }

    private static void changesNothing(String call, ToLongFunction<LampShares> asks) {
        LampShares x = busy();
        long first = asks.applyAsLong(x);
        C.due(call + " asked twice", asks.applyAsLong(x), first);
        C.same("changed by " + call, Checks.fate(x), Checks.fate(busy()));
    }

    private static void nothingIsChanged() {
        C.part("In what follows nothing is changed");
        for (int how = 0; how <= 2; how++) {
            int one = how;
            changesNothing("best", x -> x.best(one, 0));
            changesNothing("ask", x -> x.ask(one));
        }
        changesNothing("point", x -> x.point(0, 5));
        changesNothing("judge", x -> x.judge(4, 1000_2100_3000_6099L));
        changesNothing("judge of what can not be", x -> x.judge(4, 1000_3000_6077_2000L));
        changesNothing("which", x -> x.which());
        changesNothing("share", x -> x.share(0, true));
        changesNothing("chance", x -> x.chance(3, false));
    }

    private static void wallsAsTheyStand() {
        C.part("WALLS are as they stand");
        LampShares x = Checks.desk(FALLING + "s0015" + "f1008" + "w1011" + "w1011");
        for (int how = 0; how <= 1; how++) {
            bestIs(x, how, NONE, NONE, NONE);
        }
        C.due("floor", x.point(0, 5), NONE);
        x.build(0);
        bestIs(x, 0, NONE, NONE, NONE);
        x.build(1);
        bestIs(x, 0, 1, 5, 1);
        bestIs(x, 1, 1, 5, 1);
        C.due("floor", x.point(0, 5), 5);
        x.build(0);
        C.due("floor", x.point(0, 5), NONE);
    }

    private static void serves() {
        C.part("A set of SPOTS SERVES, if by LAMPS there alone (none DEAD) all POINTS are SERVED");
        LampShares two = Checks.desk(OWN + "s0013" + "s5514" + "f0009" + "f5509");
        bestIs(two, 0, 3, 7, 2);
        bestIs(two, 1, 3, 7, 2);
        two.hang(0);
        two.hang(1);
        two.die(1);
        bestIs(two, 0, 3, 7, 2);
        two.want(1, 0);
        bestIs(two, 0, 1, 3, 1);
        LampShares none = Checks.desk(OWN + "s0013" + "s5514");
        for (int how = 0; how <= 2; how++) {
            bestIs(none, how, 0, 0, 0);
        }
        LampShares six = Checks.desk("L90000000003" + "s0013" + "f1003f2003f3003f4003f5003f0012");
        bestIs(six, 0, 1, 3, 1);
        six.want(4, 4);
        bestIs(six, 0, NONE, NONE, NONE);
    }

    private static void fewest() {
        C.part("FEWEST: those of the fewest SPOTS, of these of the least PRICE together, of like ones the least");
        bestIs(Checks.desk(OWN + "s0011" + "s0011" + "s0029" + "f0018"), 0, 4, 9, 1);
        bestIs(Checks.desk(OWN + "s0013" + "s0012" + "f0009"), 0, 2, 2, 1);
        bestIs(Checks.desk(OWN + "s0012" + "s0012" + "f0009"), 0, 1, 2, 1);
        bestIs(Checks.desk(OWN + "s0015" + "s0013" + "s0014" + "f0018"), 0, 6, 7, 2);
        bestIs(Checks.desk(OWN + "s0011" + "s0013" + "s0013" + "s0011" + "f0018"), 0, 9, 2, 2);
        bestIs(Checks.desk(OWN + "s0012" + "s0012" + "s0012" + "s0012" + "f0018"), 0, 3, 4, 2);
        bestIs(Checks.desk(OWN + "s0019".repeat(8) + "f0072"), 0, 255, 72, 8);
        bestIs(Checks.desk(OWN + "s0011".repeat(8) + "f0064"), 0, 255, 8, 8);
        bestIs(Checks.desk(OWN + "s0011".repeat(8) + "f0063"), 0, 127, 7, 7);
        bestIs(Checks.desk(OWN + "s0019" + "s0011".repeat(7) + "f0063"), 0, 254, 7, 7);
    }

    private static void cheapest() {
        C.part("CHEAPEST: that of the least PRICE together, of like ones the least");
        bestIs(Checks.desk(OWN + "s0011" + "s0011" + "s0029" + "f0018"), 1, 3, 2, 2);
        LampShares likes = Checks.desk(OWN + "s0011" + "s0011" + "s0022" + "f0018");
        bestIs(likes, 1, 3, 2, 2);
        bestIs(likes, 0, 4, 2, 1);
        bestIs(Checks.desk(OWN + "s0012" + "s0012" + "f0009"), 1, 1, 2, 1);
        bestIs(Checks.desk(OWN + "s0013" + "s0012" + "f0009"), 1, 2, 2, 1);
        bestIs(Checks.desk(OWN + "s0019" + "s0011".repeat(7) + "f0009"), 1, 2, 1, 1);
        bestIs(Checks.desk(OWN + "s0088" + "s0011".repeat(7) + "f0063"), 1, 254, 7, 7);
        bestIs(Checks.desk(OWN + "s0019".repeat(8) + "f0072"), 1, 255, 72, 8);
    }

    private static void safe() {
        C.part("SAFE: of sets that SERVE also without any one of their SPOTS (and with all)");
        bestIs(Checks.desk(OWN + "s0011" + "s0011" + "s0011" + "f0009"), 2, 3, 2, 2);
        bestIs(Checks.desk(OWN + "s0019" + "s0011" + "s0011" + "f0009"), 2, 6, 2, 2);
        bestIs(Checks.desk(OWN + "s0029" + "s0029" + "s0011" + "s0011" + "s0011" + "f0018"), 2, 28, 3, 3);
        bestIs(Checks.desk(OWN + "s0011" + "s0011" + "s0022" + "f0018"), 2, 7, 4, 3);
        bestIs(Checks.desk(OWN + "s0011" + "s5511" + "s0011" + "s5511" + "f0009" + "f5509"), 2, 15, 4, 4);
        bestIs(Checks.desk(OWN + "s0011" + "s5511" + "s0011" + "f0009" + "f5509"), 2, NONE, NONE, NONE);
        bestIs(Checks.desk(OWN + "s0021" + "f0018"), 2, NONE, NONE, NONE);
        bestIs(Checks.desk(OWN + "s0011".repeat(8) + "f0064"), 2, NONE, NONE, NONE);
        bestIs(Checks.desk(OWN + "s0011".repeat(8) + "f0063"), 2, 255, 8, 8);
        bestIs(Checks.desk(OWN + "s0011" + "s0012" + "s0013" + "s0012" + "f0018"), 2, 11, 5, 3);
        C.part("SAFE: the empty set is, if it SERVES; a set of one SPOT is, if the empty one SERVES, too");
        bestIs(Checks.desk("L90000000009" + "s0011" + "f0009"), 2, 0, 0, 0);
        bestIs(Checks.desk("L90000000009" + "s0011" + "f0010"), 2, NONE, NONE, NONE);
        bestIs(Checks.desk("L90000000009" + "s0011" + "s0011" + "f0010"), 2, 3, 2, 2);
    }

    private static void noSet() {
        C.part("NONE: no set does (the empty one may)");
        LampShares x = Checks.desk("L90000000001" + "s0011" + "f0011");
        for (int how = 0; how <= 2; how++) {
            bestIs(x, how, NONE, NONE, NONE);
        }
        x.want(0, 1);
        for (int how = 0; how <= 2; how++) {
            bestIs(x, how, 0, 0, 0);
        }
        LampShares noSpots = Checks.desk("L90000000009" + "f0009");
        for (int how = 0; how <= 2; how++) {
            bestIs(noSpots, how, 0, 0, 0);
        }
        noSpots.want(0, 10);
        for (int how = 0; how <= 2; how++) {
            bestIs(noSpots, how, NONE, NONE, NONE);
        }
        for (int how = 0; how <= 2; how++) {
            bestIs(new LampShares(), how, 0, 0, 0);
        }
    }

    private static void floors() {
        C.part("FLOOR of a POINT: the least PRICE together of a set of SPOTS by whose LAMPS that POINT is SERVED; NONE");
        LampShares x = Checks.desk(OWN + "s0013" + "s5514" + "f0009" + "f5509" + "f3301" + "f3300");
        C.due("by one", x.point(0, 5), 3);
        C.due("by the other", x.point(1, 5), 4);
        C.due("by none", x.point(2, 5), NONE);
        C.due("it wants nothing", x.point(3, 5), 0);
        C.due("all together", x.best(1, 0), NONE);
        LampShares many = Checks.desk(OWN + "s0029" + "s0014" + "s0014" + "f0018");
        C.due("two are cheaper than one", many.point(0, 5), 8);
        many.want(0, 19);
        C.due("two of them", many.point(0, 5), 13);
        many.want(0, 36);
        C.due("all", many.point(0, 5), 17);
        many.want(0, 37);
        C.due("one more than all give", many.point(0, 5), NONE);
        LampShares glow = Checks.desk("L90000000005" + "s0012" + "f0005" + "f0006");
        C.due("by glow", glow.point(0, 5), 0);
        C.due("one more than glow", glow.point(1, 5), 2);
        C.due("the dearest", Checks.desk(OWN + "s0019".repeat(8) + "f0072").point(0, 5), 72);
        C.due("no spots", Checks.desk(OWN + "f0001").point(0, 5), NONE);
    }

    private static void bestSpot() {
        C.part("BEST: the SPOT without a LAMP by which, HUNG, most POINTS are SERVED, of like ones by SUMS");
        C.due("served ahead of sums", Checks.desk(OWN + "s0091" + "s5511" + "f0099" + "f5509").ask(0), 1);
        C.due("served ahead of the least", Checks.desk(OWN + "s0011" + "s5511" + "f0018" + "f5509").ask(0), 1);
        C.due("two ahead of one", Checks.desk(OWN + "s0091" + "s5511" + "f0009" + "f5509" + "f5509").ask(0), 1);
        C.due("sums", Checks.desk(OWN + "s0011" + "s0021" + "f0099").ask(0), 1);
        String row = "s0011" + "s1011" + "f0099" + "f1099" + "f2099";
        C.due("sums of all points", Checks.desk("L98000000000" + row).ask(0), 1);
        LampShares hung = Checks.lit(OWN + "s0011" + "s5511" + "s0011" + "f0018" + "f5599", 0);
        C.due("together with lamps that hang", hung.ask(0), 2);
        hung.die(0);
        C.due("not with the dead", hung.ask(0), 1);
        hung.hang(1);
        C.due("none but those without a lamp", hung.ask(0), 2);
    }

    private static void bestOfLikeOnes() {
        C.part("BEST: of like ones the least");
        LampShares x = Checks.desk(OWN + "s0011".repeat(8) + "f0099");
        for (int spot = 0; spot < 8; spot++) {
            C.due("the least without a lamp", x.ask(0), spot);
            x.hang(spot);
        }
        C.due("all have lamps", x.ask(0), NONE);
        C.due("without points", Checks.desk(OWN + "s0011" + "s0099").ask(0), 0);
    }

    private static void noBestSpot() {
        C.part("BEST: NONE: all have LAMPS, or there are no SPOTS");
        C.due("a new object", new LampShares().ask(0), NONE);
        C.due("no spots", Checks.desk(OWN + "f0000" + "w0001").ask(0), NONE);
        LampShares x = Checks.lit(OWN + "s0011" + "s0011" + "f0000", 0, 1);
        C.due("all have lamps", x.ask(0), NONE);
        x.die(0);
        C.due("a dead one is one, too", x.ask(0), NONE);
        x.hang(0);
        C.due("it is taken", x.ask(0), 0);
    }

    private static void worstWall() {
        C.part("WORST: the WALL that stands, without which most POINTS are SERVED, of like ones by SUMS, the least");
        String ends = "s0091" + "s5511" + "f1099" + "f4508";
        LampShares x = Checks.lit(FALLING + ends + "w1011" + "w5556", 0, 1);
        C.due("served ahead of sums", x.ask(1), 1);
        x.want(1, 9);
        C.due("sums", x.ask(1), 0);
        LampShares turned = Checks.lit(FALLING + ends + "w5556" + "w1011", 0, 1);
        C.due("served ahead of sums", turned.ask(1), 0);
        turned.want(1, 9);
        C.due("sums", turned.ask(1), 1);
        turned.die(0);
        C.due("the dead have no sums", turned.ask(1), 0);
        turned.build(0);
        C.due("of those that stand", turned.ask(1), 1);
        LampShares twice = Checks.lit(FALLING + "s0011" + "f1001" + "w3334" + "w1011" + "w1011", 0);
        C.due("behind two walls: all like", twice.ask(1), 0);
        twice.build(2);
        C.due("behind one", twice.ask(1), 1);
        C.due("no lamps: all like", Checks.desk(FALLING + ends + "w1011".repeat(5)).ask(1), 0);
        C.due("no points", Checks.desk(FALLING + "w1011".repeat(2)).ask(1), 0);
        String row = "s0011" + "s5511" + "f1099" + "f0199" + "f4599";
        LampShares sums = Checks.lit(FALLING + row + "w5556" + "w0121" + "w1011", 0, 1);
        C.due("like sums", sums.ask(1), 0);
        LampShares more = Checks.lit("L98000000000" + row + "f4599" + "w1011" + "w5556", 0, 1);
        C.due("sums of all points", more.ask(1), 1);
    }

    private static void noWorstWall() {
        C.part("WORST: NONE: no WALL stands");
        C.due("a new object", new LampShares().ask(1), NONE);
        C.due("no walls", Checks.desk(OWN + "s0011" + "f0000").ask(1), NONE);
        LampShares x = Checks.desk(OWN + "w0001".repeat(5));
        for (int wall = 0; wall < 5; wall++) {
            C.due("the least that stands", x.ask(1), wall);
            x.build(wall);
        }
        C.due("none stands", x.ask(1), NONE);
        x.build(4);
        C.due("the last one", x.ask(1), 4);
    }

    private static void even() {
        C.part("EVEN: told as BITS; NONE: there are no POINTS, or the greatest one is 0");
        C.due("a new object", new LampShares().ask(2), NONE);
        C.due("no points", Checks.lit("L99999999999" + "s0011", 0).ask(2), NONE);
        LampShares x = Checks.desk(OWN + "s0011" + "f0000" + "f5500");
        C.due("all are 0", x.ask(2), NONE);
        x.hang(0);
        C.due("0 / 9", x.ask(2), 0);
        x.die(0);
        C.due("all are 0 again", x.ask(2), NONE);
        C.due("one point", Checks.lit(OWN + "s0011" + "f0000", 0).ask(2), 0x3f800000);
        C.due("glow alone", Checks.desk("L00000000001" + "f0000".repeat(6)).ask(2), 0x3f800000);
        C.due("1 / 2", Checks.lit("L10000000001" + "s0011" + "f0000" + "f5500", 0).ask(2), 0x3f000000);
        C.due("1 / 3", Checks.lit("L20000000001" + "s0011" + "f0000" + "f5500", 0).ask(2), 0x3eaaaaab);
        C.due("1 / 10", Checks.lit("L90000000001" + "s0011" + "f0000" + "f5500", 0).ask(2), 0x3dcccccd);
        LampShares three = Checks.lit("L90000000001" + "s0011" + "s1121" + "f1100" + "f3300" + "f0000", 0, 1);
        C.due("1 / 19: the least, the greatest", three.ask(2), Float.floatToIntBits(1 / 19f));
        LampShares most = Checks.lit("L90000000001" + "s0091".repeat(8) + "f5500" + "f0000", 0, 1, 2, 3, 4, 5, 6, 7);
        C.due("1 / 649", most.ask(2), Float.floatToIntBits(1 / 649f));
    }

    /** Powers 1, 2, 4, 8, 9, 9, 9, 9 hung in turn: two POINTS, one lit by t0, one by t1 for each unit of power. */
    private static void evenOfAllQuotients() {
        C.part("EVEN: the least SUM of a POINT / (float) the greatest one");
        String lamps = "s0011" + "s0021" + "s0041" + "s0081" + "s0091".repeat(4) + "f0000" + "f1000";
        int[] powers = {1, 2, 4, 8, 9, 9, 9, 9};
        for (int head = 0; head < 1000; head++) {
            int t0 = head / 100, t1 = head / 10 % 10, glow = head % 10;
            LampShares x = Checks.desk("L" + t0 + t1 + "00000000" + glow + lamps);
            int power = 0;
            for (int turn = 1; turn < 128; turn++) {
                int spot = Integer.numberOfTrailingZeros(turn);
                x.hang(spot);
                power += x.spot(spot, 4) == 1 ? powers[spot] : -powers[spot];
                int least = glow + power * Math.min(t0, t1);
                int greatest = glow + power * Math.max(t0, t1);
                int due = greatest == 0 ? NONE : Float.floatToIntBits(least / (float) greatest);
                C.due("even of " + least + " / " + greatest, x.ask(2), due);
            }
        }
    }

    private static LampShares judged() {
        return Checks.desk("L98765432101" + "s0023" + "s2011" + "s5599" + "f0019" + "f1010" + "w1011" + "w2021");
    }

    private static void judgeIs(LampShares x, int n, long row, int due) {
        C.due("judge(" + n + ", " + row + ")", x.judge(n, row), due);
    }

    private static void judgedDoings() {
        C.part("JUDGED: 1, 2, 3, 6 are done, from then on");
        LampShares x = judged();
        judgeIs(x, 1, 1200, NONE);
        judgeIs(x, 1, 1300, 0);
        judgeIs(x, 2, 1000_4019, NONE);
        judgeIs(x, 3, 1000_1000_4002L, 2);
        judgeIs(x, 3, 1000_1000_4001L, NONE);
        judgeIs(x, 4, 1000_1000_1000_4019L, NONE);
        judgeIs(x, 1, 2000, 0);
        judgeIs(x, 2, 1000_2000, NONE);
        judgeIs(x, 2, 1000_2100, 1);
        judgeIs(x, 3, 1000_2000_4002L, 2);
        judgeIs(x, 4, 1000_2000_2000_4019L, NONE);
        judgeIs(x, 4, 1000_2000_1000_2000L, 3);
        judgeIs(x, 1, 3100, NONE);
        judgeIs(x, 1, 3200, 0);
        judgeIs(x, 2, 3000_7010, NONE);
        judgeIs(x, 3, 3000_3000_7011L, NONE);
        judgeIs(x, 1, 6199, NONE);
        judgeIs(x, 1, 6200, 0);
        judgeIs(x, 2, 6001_5010, NONE);
        judgeIs(x, 2, 6002_5000, NONE);
        judgeIs(x, 3, 6000_6099_5000L, NONE);
        judgeIs(x, 3, 1000_6019_5010L, NONE);
        judgeIs(x, 3, 1000_6020_5000L, NONE);
        judgeIs(x, 3, 1000_6020_5010L, 2);
        x.hang(0);
        x.die(0);
        judgeIs(x, 1, 4002, 0);
        judgeIs(x, 2, 2000_4019, NONE);
        judgeIs(x, 3, 1000_1000_4019L, NONE);
        C.due("the lamp is dead still", x.spot(0, 4), 2);
    }

    private static void judgedAsked() {
        C.part("JUDGED: 4, 5, 7 are asked as it is then");
        LampShares x = judged();
        judgeIs(x, 1, 4000, NONE);
        judgeIs(x, 1, 4001, NONE);
        judgeIs(x, 1, 4002, 0);
        judgeIs(x, 1, 4200, 0);
        judgeIs(x, 2, 4019_1000, 0);
        judgeIs(x, 2, 1000_4019, NONE);
        judgeIs(x, 2, 1000_4020, 1);
        judgeIs(x, 1, 5000, NONE);
        judgeIs(x, 1, 5010, 0);
        judgeIs(x, 2, 1000_5010, NONE);
        judgeIs(x, 2, 1000_5000, 1);
        judgeIs(x, 1, 5200, 0);
        for (int neither = 2; neither <= 9; neither++) {
            judgeIs(x, 1, 5000 + 10 * neither, 0);
            judgeIs(x, 2, 1000_5000 + 10 * neither, 1);
            judgeIs(x, 1, 7000 + neither, 0);
            judgeIs(x, 1, 7010 + neither, 0);
        }
        judgeIs(x, 1, 7000, NONE);
        judgeIs(x, 1, 7001, 0);
        judgeIs(x, 1, 7011, NONE);
        judgeIs(x, 1, 7010, 0);
        judgeIs(x, 2, 7010_3000, 0);
        judgeIs(x, 1, 7300, 0);
        judgeIs(x, 1, 7020, 0);
        judgeIs(x, 1, 7021, 0);
        LampShares bright = Checks.lit("L90000000009" + "s0091" + "s0091" + "f0099", 0, 1);
        judgeIs(bright, 1, 4099, NONE);
        judgeIs(bright, 2, 2000_4099, 1);
        judgeIs(bright, 2, 2000_4090, NONE);
        judgeIs(bright, 2, 2000_4091, 1);
    }

    private static void judgedPlaces() {
        C.part("JUDGED: n doings (1 to 4), the first one's are the highest of row; the place of the first; NONE: none");
        LampShares x = judged();
        long good = 3000, bad = 9000;
        for (int n = 1; n <= 4; n++) {
            long all = 0;
            for (int i = 0; i < n; i++) {
                all = all * 10000 + good;
            }
            judgeIs(x, n, all, NONE);
            judgeIs(x, n, 0, 0);
            for (int place = 0; place < n; place++) {
                long step = 1;
                for (int i = place; i < n - 1; i++) {
                    step = step * 10000;
                }
                judgeIs(x, n, all + (bad - good) * step, place);
                judgeIs(x, n, all - good * step, place);
                judgeIs(x, n, all + 1 * step, place);
            }
        }
        judgeIs(x, 2, 1000, 0);
        judgeIs(x, 4, 9000_9000, 0);
        judgeIs(x, 3, 1000_9000_9000L, 1);
    }

    private static void judgedThatCanNotBe() {
        C.part("JUDGED: the place of the first that can not be (or is not so)");
        int doing = 0;
        for (int desks = 0; desks < 40; desks++) {
            LampShares x = Checks.lit(OWN + "s0011".repeat(8) + "f0000".repeat(6) + "w0001".repeat(3), 7);
            for (int i = 0; i < 250; i++) {
                judgeIs(x, 1, doing, canBe(doing) ? NONE : 0);
                doing++;
            }
        }
    }

    /** Eight SPOTS, a LAMP at 7; six POINTS with SUM 9 and WANT 0; three WALLS on no RAY. */
    private static boolean canBe(int doing) {
        int kind = doing / 1000, a = doing / 100 % 10, b = doing / 10 % 10, c = doing % 10;
        switch (kind) {
            case 1:
                return a <= 7 && b == 0 && c == 0;
            case 2:
                return a == 7 && b == 0 && c == 0;
            case 3:
                return a <= 2 && b == 0 && c == 0;
            case 4:
                return a <= 5 && b == 0;
            case 5:
                return a <= 5 && b == 1 && c == 0;
            case 6:
                return a <= 5;
            default:
                return kind == 7 && a <= 7 && b <= 5 && c == 0;
        }
    }

    private static void seenWhenAsked() {
        C.part("SEEN: as all stands when that is asked, not when it was told; v or more: that is so (1), or not (0)");
        LampShares x = Checks.lit("L98000000001" + "s0011" + "s0021" + "f0000" + "f1000" + "w1011", 0, 1);
        x.see(0, 19, 1);
        C.due("just v: the first one", x.which(), 1);
        x.unsee();
        x.see(0, 20, 1);
        C.due("v is one more", x.which(), 0);
        x.unsee();
        x.see(0, 19, 0);
        C.due("not so: the other one", x.which(), 2);
        x.unsee();
        x.see(0, 10, 0);
        C.due("10 or more is so by either", x.which(), 0);
        x.unsee();
        x.see(0, 0, 0);
        C.due("0 or more is always so", x.which(), 0);
        x.unsee();
        x.see(0, 0, 1);
        x.see(0, 999, 0);
        C.due("999 never is", x.which(), 3);
        x.see(1, 17, 1);
        C.due("the wall stands", x.which(), 0);
        x.build(0);
        C.due("it is away", x.which(), 1);
        x.want(1, 99);
        C.due("wants don't matter", x.which(), 1);
        x.die(0);
        C.due("the dead one is not unknown", x.which(), 0);
        x.undo();
        x.hang(1);
        C.due("one is taken", x.which(), 0);
    }

    private static void seenAtMostSix() {
        C.part("SEEN: never more than 6, none at first");
        C.due("at first", new LampShares().count(10), 0);
        C.due("unsee() at first", new LampShares().unsee(), 0);
        LampShares x = Checks.lit(OWN + "s0011" + "f0000", 0);
        for (int i = 1; i <= 6; i++) {
            C.due("see", x.see(0, 0, 1), i);
        }
        C.due("one more", x.see(0, 0, 0), FULL);
        C.due("six", x.count(10), 6);
        C.due("it was not taken in", x.which(), 1);
        C.due("unsee()", x.unsee(), 6);
        C.due("see", x.see(0, 0, 0), 1);
        C.due("all six are looked at, the last one too", lastOfSix(), 0);
    }

    private static int lastOfSix() {
        LampShares x = Checks.lit(OWN + "s0011" + "f0000", 0);
        for (int i = 1; i <= 5; i++) {
            x.see(0, 0, 1);
        }
        x.see(0, 1, 1);
        return x.which();
    }

    private static void seenByAnotherPlan() {
        C.part("another PLAN leaves them; of POINTS that there are not any more nothing is looked at");
        String two = OWN + "s0011" + "f0000" + "f0000";
        LampShares x = Checks.lit(two, 0);
        x.see(0, 0, 1);
        x.see(1, 0, 0);
        C.due("not so", x.which(), 0);
        Checks.planAnew(x, OWN + "s0011" + "f0000");
        x.hang(0);
        C.due("both are left", x.count(10), 2);
        C.due("the point is not there any more", x.which(), 1);
        x.see(0, 0, 0);
        C.due("what was seen behind it is looked at", x.which(), 0);
        Checks.planAnew(x, OWN + "s0011");
        x.hang(0);
        C.due("no points at all", x.which(), 1);
        Checks.planAnew(x, two);
        x.hang(0);
        C.due("it is there again", x.which(), 0);
        C.due("all are left", x.unsee(), 3);
    }

    private static void which() {
        C.part("WHICH: such LAMPS (SPOTS, bits) by which all that is SEEN is so");
        C.due("a new object", new LampShares().which(), 0);
        LampShares x = Checks.desk(OWN + "s0011".repeat(8) + "f0000");
        C.due("none hangs", x.which(), 0);
        for (int spot = 0; spot < 8; spot++) {
            x.hang(spot);
            C.due("nothing is seen: all that hang", x.which(), (2 << spot) - 1);
        }
        x.see(0, 63, 1);
        C.due("one of eight is dead", x.which(), 255);
        x.see(0, 64, 0);
        C.due("just one", x.which(), 255);
        x.die(7);
        C.due("one more would be two", x.which(), 0);
        x.unsee();
        C.due("the dead one is not among them", x.which(), 127);
        LampShares both = Checks.lit(OWN + "s0011" + "s1111" + "f0000" + "f1100", 0, 1);
        both.see(0, 9, 1);
        C.due("not the first", both.which(), 2);
        both.see(1, 9, 1);
        C.due("nor the second: all of it has to be so", both.which(), 0);
    }

    private static void shareIs(LampShares x, int spot, int above, int below) {
        C.due("share(" + spot + ", true)", x.share(spot, true), above);
        C.due("share(" + spot + ", false)", x.share(spot, false), below);
    }

    private static void shares() {
        C.part("SHARE: by how many more POINTS are SERVED in the mean when it has come: a FRACTION");
        shareIs(Checks.lit(OWN + "s0011", 0), 0, 0, 1);
        shareIs(Checks.lit(OWN + "s0011" + "f0000", 0), 0, 0, 1);
        shareIs(Checks.lit(OWN + "s0011" + "f0010", 0), 0, 0, 1);
        shareIs(Checks.lit(OWN + "s0011" + "f0009", 0), 0, 1, 1);
        shareIs(Checks.lit(OWN + "s0011" + "f0009".repeat(6), 0), 0, 6, 1);
        LampShares two = Checks.lit(OWN + "s0011" + "s0011" + "s0011" + "f0018" + "f0009" + "f0001", 0, 1);
        shareIs(two, 0, 3, 2);
        two.hang(2);
        shareIs(two, 0, 1, 1);
        C.part("SHARE: others are not there");
        two.die(2);
        shareIs(two, 0, 3, 2);
        two.hang(1);
        shareIs(two, 0, 2, 1);
        shareIs(two, 1, STATE, STATE);
        shareIs(two, 2, STATE, STATE);
        C.part("SHARE: in each order as likely, in least terms");
        LampShares eight = Checks.lit(OWN + "s0011".repeat(8) + "f0072".repeat(6), 0, 1, 2, 3, 4, 5, 6, 7);
        shareIs(eight, 0, 3, 4);
        shareIs(eight, 7, 3, 4);
        eight.want(5, 0);
        shareIs(eight, 3, 5, 8);
        for (int point = 0; point < 5; point++) {
            eight.want(point, 0);
        }
        shareIs(eight, 3, 0, 1);
        LampShares alike = Checks.lit(OWN + "s0011".repeat(8) + "f0099", 0, 1, 2, 3, 4, 5, 6, 7);
        for (int needed = 1; needed <= 8; needed++) {
            alike.want(0, 9 * needed);
            shareIs(alike, needed - 1, 1, 8);
        }
        LampShares strong = Checks.lit(OWN + "s0021" + "s0011" + "s0011" + "f0018", 0, 1, 2);
        shareIs(strong, 0, 2, 3);
        shareIs(strong, 1, 1, 6);
        LampShares walled = Checks.lit(FALLING + "s0011" + "s2011" + "f1008" + "w1011", 0, 1);
        shareIs(walled, 0, 0, 1);
        shareIs(walled, 1, 1, 1);
        walled.build(0);
        shareIs(walled, 0, 1, 2);
    }

    private static void chanceIs(LampShares x, int tenths, int above, int below) {
        C.due("chance(" + tenths + ", true)", x.chance(tenths, true), above);
        C.due("chance(" + tenths + ", false)", x.chance(tenths, false), below);
    }

    private static void chances() {
        C.part("CHANCE: each LAMP that hangs and is not DEAD dies by x tenths (0 to 10), by itself");
        LampShares one = Checks.lit(OWN + "s0011" + "s0011" + "f0009", 0);
        int[] above = {1, 9, 4, 7, 3, 1, 2, 3, 1, 1, 0};
        int[] below = {1, 10, 5, 10, 5, 2, 5, 10, 5, 10, 1};
        for (int x = 0; x <= 10; x++) {
            chanceIs(one, x, above[x], below[x]);
        }
        one.hang(1);
        chanceIs(one, 1, 99, 100);
        chanceIs(one, 9, 19, 100);
        one.want(0, 18);
        chanceIs(one, 1, 81, 100);
        chanceIs(one, 9, 1, 100);
        one.die(1);
        chanceIs(one, 1, 0, 1);
        one.want(0, 9);
        chanceIs(one, 1, 9, 10);
        LampShares eight = Checks.lit(OWN + "s0011".repeat(8) + "f0072", 0, 1, 2, 3, 4, 5, 6, 7);
        chanceIs(eight, 0, 1, 1);
        chanceIs(eight, 1, 43046721, 100000000);
        chanceIs(eight, 9, 1, 100000000);
        chanceIs(eight, 10, 0, 1);
        eight.want(0, 1);
        chanceIs(eight, 9, 56953279, 100000000);
        chanceIs(eight, 1, 99999999, 100000000);
        chanceIs(eight, 5, 255, 256);
        LampShares apart = Checks.lit(OWN + "s0011" + "s5511" + "f0009" + "f5509", 0, 1);
        C.part("CHANCE: that all POINTS are SERVED");
        chanceIs(apart, 3, 49, 100);
        apart.want(1, 10);
        chanceIs(apart, 3, 0, 1);
    }

    private static void chanceEdges() {
        C.part("CHANCE without POINTS, without LAMPS");
        for (int x = 0; x <= 10; x++) {
            chanceIs(new LampShares(), x, 1, 1);
            chanceIs(Checks.lit(OWN + "s0011" + "s0011", 0, 1), x, 1, 1);
            chanceIs(Checks.desk(OWN + "s0011" + "f0001"), x, 0, 1);
            chanceIs(Checks.desk(OWN + "s0011" + "f0000"), x, 1, 1);
            chanceIs(Checks.lit("L90000000009" + "s0011" + "f0009", 0), x, 1, 1);
        }
    }

    private static final BigInteger TIMES = new BigInteger("6364136223846793005");
    private static final BigInteger PLUS = new BigInteger("1442695040888963407");
    private static final BigInteger WRAP = BigInteger.ONE.shiftLeft(64);

    /** THE SEED from which the next x is the one told. */
    private static long seedAhead(BigInteger x) {
        return x.subtract(PLUS).multiply(TIMES.modInverse(WRAP)).mod(WRAP).longValue();
    }

    private static void drawnIs(LampShares desk, long v, int due) {
        BigInteger x = BigInteger.valueOf(v).shiftLeft(33);
        desk.seed(seedAhead(x));
        C.due("drawn by v = " + Long.toHexString(v), desk.drawn(1), due);
        C.due("the seed", desk.seed(0), x.longValue());
        BigInteger more = x.add(BigInteger.ONE.shiftLeft(33)).subtract(BigInteger.ONE);
        desk.seed(seedAhead(more));
        C.due("drawn by the lower bits, too", desk.drawn(1), due);
        C.due("the seed", desk.seed(0), more.longValue());
    }

    private static void draws() {
        C.part("DRAWN: v is (int) (x >>> 33): the WANT of POINT i is (v >> 5 i & 31) that time");
        String six = "f0099f0099f0099f0099f0099f0099";
        LampShares dark = Checks.desk(OWN + "s0011" + six);
        drawnIs(dark, 0, 6);
        drawnIs(dark, 0x7fffffffL, 0);
        drawnIs(dark, 0x40000000L, 6);
        for (int point = 0; point < 6; point++) {
            drawnIs(dark, 1L << 5 * point, 5);
            drawnIs(dark, 16L << 5 * point, 5);
            drawnIs(dark, 0x3fffffffL - (31L << 5 * point), 1);
        }
        LampShares lit = Checks.lit("L30000000004" + "s0091" + "f0099" + "f5500", 0);
        drawnIs(lit, 31, 2);
        drawnIs(lit, 31 | 4 << 5, 2);
        drawnIs(lit, 31 | 5 << 5, 1);
        LampShares less = Checks.lit("L30000000003" + "s0091" + "f0000", 0);
        drawnIs(less, 30, 1);
        drawnIs(less, 31, 0);
        less.die(0);
        drawnIs(less, 3, 1);
        drawnIs(less, 4, 0);
        LampShares none = Checks.desk(OWN + "s0011");
        drawnIs(none, 0x7fffffffL, 0);
    }

    private static void seedWraps() {
        C.part("DRAWN: m times (1 to 20), 64 bits, wrapping; nothing changes but THE SEED; 0 at first");
        C.due("at first", new LampShares().seed(1), 0);
        LampShares fresh = new LampShares();
        C.due("without points", fresh.drawn(1), 0);
        C.due("the seed is drawn on", fresh.seed(0), 1442695040888963407L);
        long[] seeds = {0, 1, -1, Long.MAX_VALUE, Long.MIN_VALUE, 0x123456789abcdefL};
        for (long from : seeds) {
            LampShares x = Checks.lit("L90000000005" + "s0011" + "f0099" + "f1199" + "f2299", 0);
            String before = Checks.look(x);
            long seed = from;
            int served = 0;
            for (int time = 1; time <= 20; time++) {
                BigInteger next = BigInteger.valueOf(seed).multiply(TIMES).add(PLUS).mod(WRAP);
                seed = next.longValue();
                int v = next.shiftRight(33).intValueExact();
                served += (14 >= v % 32 ? 1 : 0) + (5 >= v / 32 % 32 ? 1 : 0) + (5 >= v / 1024 % 32 ? 1 : 0);
                x.seed(from);
                C.due("drawn(" + time + ") from " + from, x.drawn(time), served);
            }
            C.due("the seed", x.seed(0), seed);
            C.same("nothing else", Checks.look(x), before);
        }
    }

    private static void slotsKeep() {
        C.part("SLOTS to keep in, 0 to 1, keep LAMPS, which are DEAD, WALLS that stand, WANTS");
        LampShares x = Checks.lit(OWN + "s0011".repeat(8) + "f0000".repeat(6) + "w0001".repeat(3), 0, 1, 2, 3, 4, 5, 6, 7);
        x.die(0);
        x.die(7);
        x.build(0);
        x.build(2);
        x.want(0, 10);
        x.want(5, 15);
        C.due("keep(0)", x.keep(0), 8);
        x.hang(0);
        x.die(7);
        x.build(1);
        x.want(5, 99);
        C.due("keep(1)", x.keep(1), 7);
        C.due("again(0)", x.again(0), 8);
        kept(x, 255, 129, 2, 15);
        C.due("again(1)", x.again(1), 7);
        kept(x, 254, 0, 0, 99);
        C.due("again(0) once more", x.again(0), 8);
        kept(x, 255, 129, 2, 15);
        x.see(0, 5, 0);
        x.seed(8);
        x.write('z');
        x.again(1);
        C.due("not what is seen", x.count(10), 1);
        C.due("not the seed", x.seed(0), 8);
        C.due("not the text", x.count(0), 98);
        C.due("the slot is kept anew", x.keep(0), 7);
        x.hang(5);
        x.again(0);
        kept(x, 254, 0, 0, 99);
    }

    private static void kept(LampShares x, int hung, int dead, int walls, int want) {
        C.due("lamps", x.count(5), hung);
        C.due("dead", x.count(6), dead);
        C.due("walls", x.count(7), walls);
        C.due("the first want", x.point(0, 2), 10);
        C.due("the last want", x.point(5, 2), want);
    }

    private static void slotsGoOn() {
        C.part("THE ROW of ACTS is empty when one goes on");
        LampShares x = Checks.lit(OWN + "s0011" + "s0011" + "f0000", 0);
        C.due("keep(1)", x.keep(1), 1);
        C.due("keeping leaves the row", x.count(9), 1);
        x.hang(1);
        C.due("again(1)", x.again(1), 1);
        C.due("the row", x.count(9), 0);
        C.due("undo()", x.undo(), STATE);
        C.due("the other slot", x.again(0), STATE);
        x.hang(1);
        C.due("undo()", x.undo(), 0);
        C.due("as it was kept", x.count(5), 1);
        LampShares fresh = new LampShares();
        C.due("keep of a new object", fresh.keep(0), 0);
        C.due("again of a new object", fresh.again(0), 0);
    }

    private static void wallsThroughTheMidst() {
        C.part("a WALL that goes through the midst of a CELL shades each RAY that begins or ends there");
        for (int x = 0; x <= 5; x++) {
            for (int y = 0; y <= 5; y++) {
                LampShares begins = Checks.desk(OWN + "s2311" + "f" + x + y + "00" + "w2334");
                C.due("begins there", begins.shade(0, 0), 0);
                LampShares ends = Checks.desk(OWN + "s" + x + y + "11" + "f2300" + "w3324");
                C.due("ends there", ends.shade(0, 0), 0);
                LampShares longer = Checks.desk(OWN + "s" + x + y + "11" + "f2300" + "w0156");
                C.due("a longer wall", longer.shade(0, 0), 0);
            }
        }
    }

    private static void whatLooksAtLamps() {
        C.part("FEWEST, CHEAPEST, SAFE, FLOOR do not look at LAMPS as they hang, nor at which are DEAD");
        LampShares x = Checks.desk(OWN + "s0011" + "s0012" + "s0013" + "f0009");
        x.hang(0);
        x.hang(2);
        for (int turn = 0; turn < 3; turn++) {
            bestIs(x, 0, 1, 1, 1);
            bestIs(x, 1, 1, 1, 1);
            bestIs(x, 2, 3, 3, 2);
            C.due("floor", x.point(0, 5), 1);
            x.die(0);
            x.hang(turn);
        }
        C.part("BEST, WORST, EVEN, SEEN, SHARE, CHANCE do");
        LampShares y = Checks.desk(FALLING + "s0011" + "s2011" + "s4011" + "f1008" + "f3008" + "w1011" + "w4041");
        C.due("best", y.ask(0), 1);
        C.due("worst", y.ask(1), 0);
        C.due("even", y.ask(2), NONE);
        C.due("which", y.which(), 0);
        chanceIs(y, 5, 0, 1);
        y.hang(1);
        C.due("best", y.ask(0), 0);
        C.due("even", y.ask(2), 0x3f800000);
        C.due("which", y.which(), 2);
        shareIs(y, 1, 2, 1);
        chanceIs(y, 5, 1, 2);
        y.hang(2);
        C.due("worst", y.ask(1), 1);
        y.die(1);
        C.due("worst", y.ask(1), 1);
        C.due("even", y.ask(2), NONE);
        C.due("which", y.which(), 4);
        chanceIs(y, 5, 0, 1);
        C.part("BEST counts one that is HUNG there as not DEAD; a LAMP that is taken is not DEAD when HUNG again");
        y.hang(1);
        C.due("best", y.ask(0), 1);
        y.hang(1);
        C.due("not dead", y.spot(1, 4), 1);
        C.due("even", y.ask(2), 0x3f800000);
    }
}
