/** The boundaries that 'Terms', part 1, names: the floor, THE TEXT, LAMPS, WALLS, RAYS, LIGHT, ACTS. */
public final class FloorTermsTest {
    private static final int UNKNOWN = Checks.UNKNOWN, STATE = Checks.STATE, FULL = Checks.FULL, NONE = Checks.NONE;
    private static final String OWN = Checks.OWN, FALLING = Checks.FALLING;

    private static final String FIGURES = "0123456789";

    private static final Checks C = new Checks();

    public static void main(String[] args) {
        cells();
        spotsAreAtMostEight();
        powersAndPrices();
        pointsAreAtMostSix();
        wants();
        wallsAreAtMostFive();
        corners();
        cellsLieBetweenCorners();
        theTable();
        glow();
        textIsAtMost99();
        head();
        partsInAnyRow();
        withoutBlanks();
        severalAlike();
        faultWhateverCameBehind();
        faultLengthSetAside();
        faultNotAtItsEnd();
        lampsAtFirst();
        wallsAtFirst();
        raysThatArePoints();
        raysAndEnds();
        lightByLength();
        sums();
        served();
        turns();
        actsAreAtMost14();
        actsThatAreUndone();
        actsAreNotRefused();
        C.finish();
    }

    private static void faultIs(String text, int due) {
        LampShares x = new LampShares();
        Checks.tell(x, text);
        C.due("fault of '" + text + "'", x.fault(), due);
    }

    /** Each of the 256 letters behind a text that may become a PLAN: only those told fit there. */
    private static void onlyFit(String text, String letters) {
        int place = text.length();
        boolean ends = place + 1 >= 12 && (place + 1 - 12) % 5 == 0;
        for (int letter = 0; letter < 256; letter++) {
            boolean fits = letters.indexOf(letter) >= 0;
            int due = !fits ? place : ends ? NONE : place + 1;
            faultIs(text + (char) letter, due);
        }
    }

    private static void cells() {
        C.part("THE FLOOR has CELLS, x and y 0 to 5 each");
        onlyFit(OWN + "s", "012345");
        onlyFit(OWN + "s5", "012345");
        onlyFit(OWN + "f", "012345");
        onlyFit(OWN + "f5", "012345");
        for (int x = 0; x <= 5; x++) {
            for (int y = 0; y <= 5; y++) {
                LampShares desk = Checks.desk(OWN + "s" + x + y + "11" + "f" + x + y + "00");
                C.due("x of a spot", desk.spot(0, 0), x);
                C.due("y of a spot", desk.spot(0, 1), y);
                C.due("x of a point", desk.point(0, 0), x);
                C.due("y of a point", desk.point(0, 1), y);
            }
        }
    }

    private static void spotsAreAtMostEight() {
        C.part("SPOTS are 0, 1, .. (never more than 8; none at first)");
        C.due("at first", new LampShares().count(1), 0);
        C.due("spot 0 at first", new LampShares().hang(0), UNKNOWN);
        LampShares x = new LampShares();
        Checks.tell(x, OWN + "s0011s1122s2233s3344s4455s5566s0177s1088");
        C.due("plan()", x.plan(), 8);
        C.due("count(1)", x.count(1), 8);
        for (int spot = 0; spot < 8; spot++) {
            C.due("power of " + spot, x.spot(spot, 2), spot + 1);
        }
        C.due("spot 8", x.spot(8, 2), UNKNOWN);
        onlyFit(OWN + "s0011".repeat(7), "sfw");
        onlyFit(OWN + "s0011".repeat(8), "fw");
        onlyFit(OWN + "s0011".repeat(8) + "f0000".repeat(3) + "w0001".repeat(3), "fw");
    }

    private static void powersAndPrices() {
        C.part("with a POWER and a PRICE (1 to 9 each)");
        onlyFit(OWN + "s00", "123456789");
        onlyFit(OWN + "s001", "123456789");
        onlyFit(OWN + "s009", "123456789");
        for (int power = 1; power <= 9; power++) {
            for (int price = 1; price <= 9; price++) {
                LampShares x = Checks.desk(OWN + "s00" + power + price);
                C.due("power", x.spot(0, 2), power);
                C.due("price", x.spot(0, 3), price);
            }
        }
    }

    private static void pointsAreAtMostSix() {
        C.part("POINTS are 0, 1, .. (never more than 6; none at first)");
        C.due("at first", new LampShares().count(2), 0);
        C.due("point 0 at first", new LampShares().want(0, 0), UNKNOWN);
        LampShares x = Checks.desk(OWN + "f0001f0002f0003f0004f0005f0006");
        C.due("count(2)", x.count(2), 6);
        for (int point = 0; point < 6; point++) {
            C.due("want of " + point, x.point(point, 2), point + 1);
        }
        C.due("point 6", x.point(6, 2), UNKNOWN);
        onlyFit(OWN + "f0000".repeat(5), "sfw");
        onlyFit(OWN + "f0000".repeat(6), "sw");
        onlyFit(OWN + "f0000".repeat(6) + "s0011".repeat(5) + "w0001".repeat(3), "sw");
    }

    private static void wants() {
        C.part("with a WANT (0 to 99)");
        onlyFit(OWN + "f00", FIGURES);
        onlyFit(OWN + "f000", FIGURES);
        onlyFit(OWN + "f009", FIGURES);
        for (int want = 0; want <= 99; want++) {
            LampShares x = Checks.desk(OWN + "f00" + want / 10 + want % 10);
            C.due("want", x.point(0, 2), want);
        }
    }

    private static void wallsAreAtMostFive() {
        C.part("WALLS are 0, 1, .. (never more than 5; none at first)");
        C.due("at first", new LampShares().count(3), 0);
        C.due("wall 0 at first", new LampShares().build(0), UNKNOWN);
        LampShares x = Checks.desk(OWN + "w0001w0002w0003w0004w0005");
        C.due("count(3)", x.count(3), 5);
        C.due("wall 4", x.build(4), 0);
        C.due("wall 5", x.build(5), UNKNOWN);
        onlyFit(OWN + "w0001".repeat(4), "sfw");
        onlyFit(OWN + "w0001".repeat(5), "sf");
        onlyFit(OWN + "w0001".repeat(5) + "s0011".repeat(7) + "f0000".repeat(5), "sf");
        onlyFit(OWN + "s0011".repeat(8) + "f0000".repeat(6) + "w0001".repeat(3), "w");
        onlyFit(OWN + "s0011".repeat(8) + "f0000".repeat(4) + "w0001".repeat(5), "f");
        onlyFit(OWN + "s0011".repeat(6) + "f0000".repeat(6) + "w0001".repeat(5), "s");
    }

    private static void corners() {
        C.part("each from a CORNER to another one (CORNERS have x and y 0 to 6 each)");
        onlyFit(OWN + "w", "0123456");
        onlyFit(OWN + "w6", "0123456");
        onlyFit(OWN + "w60", "0123456");
        onlyFit(OWN + "w606", "123456");
        onlyFit(OWN + "w665", "0123456");
        onlyFit(OWN + "w666", "012345");
        C.part("from CORNER a, b to CORNER c, d, 0 to 6 each, not one and the same");
        for (int wall = 0; wall < 10000; wall++) {
            int a = wall / 1000, b = wall / 100 % 10, c = wall / 10 % 10, d = wall % 10;
            if (a <= 6 && b <= 6 && c <= 6 && d <= 6) {
                faultIs(OWN + "w" + a + b + c + d, a == c && b == d ? 16 : NONE);
            }
        }
    }

    private static void cellsLieBetweenCorners() {
        C.part("CELL x, y lies between CORNERS x, y and x + 1, y + 1");
        for (int x = 0; x <= 5; x++) {
            for (int y = 0; y <= 5; y++) {
                String across = "w" + x + y + (x + 1) + (y + 1);
                String athwart = "w" + x + (y + 1) + (x + 1) + y;
                String left = "w" + x + y + x + (y + 1);
                String below = "w" + (x + 1) + y + (x + 1) + (y + 1);
                LampShares desk = Checks.desk(OWN + "s" + x + y + "11" + "f" + x + y + "00" + left + across + below + athwart);
                C.due("the way across", desk.shade(0, 0), 1);
                desk.build(1);
                C.due("the other way across", desk.shade(0, 0), 3);
                desk.build(3);
                C.due("its sides", desk.shade(0, 0), NONE);
            }
        }
    }

    private static void theTable() {
        C.part("THE TABLE is ten figures, those of 0 to 9");
        String ends = "s0011" + "f0000" + "f1000" + "f1100" + "f2000" + "f2100" + "f2200";
        int[] lengths = {0, 1, 2, 4, 5, 8};
        for (int figure = 0; figure <= 9; figure++) {
            for (int place = 0; place <= 9; place++) {
                String table = "0".repeat(place) + figure + "0".repeat(9 - place);
                LampShares x = Checks.desk("L" + table + "0" + ends);
                for (int point = 0; point < 6; point++) {
                    C.due("figure " + figure + " of " + place, x.light(0, point), lengths[point] == place ? figure : 0);
                }
            }
        }
        LampShares x = Checks.desk("L99999999990" + ends);
        Checks.planAnew(x, "L00000000000" + ends);
        for (int point = 0; point < 6; point++) {
            C.due("another table", x.light(0, point), 0);
        }
    }

    private static void glow() {
        C.part("GLOW is 0 to 9 (0 at first)");
        C.due("at first", new LampShares().count(4), 0);
        onlyFit("L0000000000", FIGURES);
        for (int glow = 0; glow <= 9; glow++) {
            LampShares x = Checks.desk("L0000000000" + glow + "f0000");
            C.due("count(4)", x.count(4), glow);
            C.due("the sum without lamps", x.point(0, 3), glow);
        }
        LampShares x = Checks.desk("L00000000009");
        Checks.planAnew(x, "L00000000000");
        C.due("another glow", x.count(4), 0);
    }

    private static void textIsAtMost99() {
        C.part("THE TEXT is letters (never more than 99)");
        LampShares x = new LampShares();
        for (int i = 1; i <= 99; i++) {
            C.due("write", x.write('L'), i);
        }
        C.due("a letter more", x.write('L'), FULL);
        C.due("its length", x.count(0), 99);
        C.due("wipe()", x.wipe(), 99);
        C.due("write", x.write('L'), 1);
    }

    private static void head() {
        C.part("A PLAN is a TEXT: L, ten figures (THE TABLE), a figure (GLOW)");
        onlyFit("", "L");
        for (int place = 1; place <= 11; place++) {
            onlyFit("L09876543210".substring(0, place), FIGURES);
        }
        onlyFit("L09876543210", "sfw");
    }

    private static void partsInAnyRow() {
        C.part("then PARTS, none or more, in any row");
        faultIs(OWN, NONE);
        LampShares none = new LampShares();
        Checks.tell(none, OWN);
        C.due("plan() without parts", none.plan(), 0);
        String[] parts = {"s1234", "f4356", "w0156"};
        int[][] rows = {{0, 1, 2}, {0, 2, 1}, {1, 0, 2}, {1, 2, 0}, {2, 0, 1}, {2, 1, 0}};
        for (int[] row : rows) {
            LampShares x = new LampShares();
            Checks.tell(x, OWN + parts[row[0]] + parts[row[1]] + parts[row[2]] + "s2345");
            C.due("plan()", x.plan(), 2);
            C.due("spot 0", x.spot(0, 3), 4);
            C.due("spot 1", x.spot(1, 3), 5);
            C.due("point 0", x.point(0, 2), 56);
            C.due("walls", x.count(3), 1);
        }
    }

    private static void withoutBlanks() {
        C.part("Without blanks");
        String text = OWN + "s0011f0000w0001";
        for (int place = 0; place <= text.length(); place++) {
            faultIs(text.substring(0, place) + " " + text.substring(place), place);
        }
        faultIs(text + "\n", text.length());
        faultIs(text + "\0", text.length());
    }

    private static void severalAlike() {
        C.part("Several may be in one CELL, several WALLS alike");
        String text = OWN + "s3311s3311f3300f3300w0001w0001w0100";
        faultIs(text, NONE);
        LampShares x = Checks.desk(text);
        C.due("spots", x.count(1), 2);
        C.due("points", x.count(2), 2);
        C.due("walls", x.count(3), 3);
    }

    private static void faultWhateverCameBehind() {
        C.part("FAULT: the place of the first letter by which THE TEXT can be no PLAN, whatever came behind it");
        String text = OWN + "s0011f0000w0001";
        for (int place = 0; place < text.length(); place++) {
            String wrong = text.substring(0, place) + "x";
            faultIs(wrong, place);
            faultIs(wrong + text.substring(place + 1), place);
            faultIs(wrong + text.substring(place), place);
            faultIs(wrong + "x", place);
            faultIs(wrong + "x".repeat(99 - place - 1), place);
        }
        faultIs(OWN + "w1212s0011", 16);
        faultIs(OWN + "s0011".repeat(9) + "x", 52);
        faultIs(OWN + "x" + "s0011".repeat(9), 12);
    }

    private static void faultLengthSetAside() {
        C.part("its length set aside; so a ninth s, a seventh f, a sixth w");
        String full = OWN + "s0011".repeat(8) + "f0000".repeat(5) + "w0001".repeat(4);
        faultIs(full, NONE);
        faultIs(full + "f", 98);
        faultIs(full + "w0", 99);
        faultIs(full + "f0", 99);
        faultIs(full + "f6", 98);
        faultIs(full + "s0", 97);
        faultIs(full + "x", 97);
        faultIs(OWN + "s0011".repeat(8) + "s", 52);
        faultIs(OWN + "f0000".repeat(6) + "f", 42);
        faultIs(OWN + "w0001".repeat(5) + "w", 37);
    }

    private static void faultNotAtItsEnd() {
        C.part("its length, if it is only not at its end; NONE: none");
        String text = OWN + "s0011f0000w0001s0011f0000w0001s0011f0000w0001";
        for (int length = 0; length <= text.length(); length++) {
            boolean atEnd = length >= 12 && (length - 12) % 5 == 0;
            faultIs(text.substring(0, length), atEnd ? NONE : length);
        }
    }

    private static void lampsAtFirst() {
        C.part("A LAMP hangs at a SPOT, or not (none at first); it is DEAD or not (not at first, nor when it is HUNG)");
        LampShares x = Checks.desk(OWN + "s0011".repeat(8));
        C.due("none hangs", x.count(5), 0);
        C.due("none is dead", x.count(6), 0);
        for (int spot = 0; spot < 8; spot++) {
            C.due("spot(" + spot + ", 4)", x.spot(spot, 4), 0);
            x.hang(spot);
            C.due("hung", x.spot(spot, 4), 1);
            x.die(spot);
            C.due("dead", x.spot(spot, 4), 2);
            x.hang(spot);
            C.due("taken", x.spot(spot, 4), 0);
            x.hang(spot);
            C.due("hung again", x.spot(spot, 4), 1);
        }
    }

    private static void wallsAtFirst() {
        C.part("A WALL stands (at first), or not");
        for (int walls = 0; walls <= 5; walls++) {
            LampShares x = Checks.desk(OWN + "w0001".repeat(walls));
            C.due("all stand", x.count(7), (1 << walls) - 1);
        }
    }

    private static void shadeIs(String ends, String wall, boolean shaded) {
        LampShares x = Checks.desk(FALLING + ends + wall);
        C.due("shade of " + ends + wall, x.shade(0, 0), shaded ? 0 : NONE);
        x.build(0);
        C.due("without the wall", x.shade(0, 0), NONE);
        LampShares back = Checks.desk(FALLING + ends + "w" + wall.substring(3) + wall.substring(1, 3));
        C.due("the wall told from its other end", back.shade(0, 0), shaded ? 0 : NONE);
    }

    private static void raysThatArePoints() {
        C.part("it may be one point alone");
        shadeIs("s2211f2200", "w2233", true);
        shadeIs("s2211f2200", "w0066", true);
        shadeIs("s2211f2200", "w3223", true);
        shadeIs("s2211f2200", "w0532", true);
        shadeIs("s2211f2200", "w1244", false);
        shadeIs("s2211f2200", "w0022", false);
        shadeIs("s2211f2200", "w3366", false);
        shadeIs("s2211f2200", "w2232", false);
        shadeIs("s2211f2200", "w1640", false);
        shadeIs("s2211f2200", "w4106", false);
        shadeIs("s2211f2200", "w4105", true);
        shadeIs("s2211f2200", "w1243", true);
        shadeIs("s2211f2200", "w2134", true);
    }

    private static void raysAndEnds() {
        C.part("It is SHADED by a WALL that stands, if they have any point in common (an end, too)");
        shadeIs("s0011f1100", "w1121", true);
        shadeIs("s0011f1100", "w1166", true);
        shadeIs("s0011f1100", "w0011", true);
        shadeIs("s0011f1100", "w2266", false);
        shadeIs("s0011f1100", "w2163", false);
        shadeIs("s0011f2000", "w0112", false);
        shadeIs("s0011f2000", "w0110", true);
        shadeIs("s0011f2000", "w2031", true);
        shadeIs("s0011f2000", "w3041", false);
        shadeIs("s0011f0200", "w0111", true);
        shadeIs("s0011f0200", "w1121", false);
        shadeIs("s1011f0100", "w1166", true);
        shadeIs("s1011f0100", "w0020", false);
        shadeIs("s5511f0000", "w3334", true);
        shadeIs("s5511f0000", "w3435", false);
        shadeIs("s0011f5000", "w5051", true);
        shadeIs("s0011f5000", "w6061", false);
        shadeIs("s0011f2100", "w1121", true);
        shadeIs("s0011f2100", "w1112", false);
        shadeIs("s0011f2100", "w1011", true);
        shadeIs("s0011f3100", "w2122", true);
        shadeIs("s0011f3100", "w2021", true);
        shadeIs("s0011f3100", "w2223", false);
    }

    private static void lightByLength() {
        C.part("POWER times the figure of THE TABLE of q; 0, if q is more than 9; 0, if its RAY is SHADED");
        for (int dx = 0; dx <= 5; dx++) {
            for (int dy = 0; dy <= 5; dy++) {
                int q = dx * dx + dy * dy;
                int due = q > 9 ? 0 : 9 * "9182736455".charAt(q) - 9 * '0';
                LampShares x = Checks.desk("L91827364557" + "s0091" + "f" + dx + dy + "00" + "w0110");
                C.due("shaded, q = " + q, x.light(0, 0), 0);
                x.build(0);
                C.due("q = " + q, x.light(0, 0), due);
                LampShares back = Checks.desk("L91827364557" + "s" + dx + dy + "91" + "f0000");
                C.due("the other way, q = " + q, back.light(0, 0), due);
            }
        }
    }

    private static void sums() {
        C.part("SUM of a POINT: GLOW, and the LIGHT there of all LAMPS that hang and are not DEAD, together");
        LampShares x = Checks.desk("L99999999999" + "s0091".repeat(8) + "f0099" + "f5500" + "w1222");
        for (int spot = 0; spot < 8; spot++) {
            C.due("sum", x.point(0, 3), 9 + 81 * spot);
            x.hang(spot);
        }
        C.due("the greatest sum", x.point(0, 3), 657);
        C.due("too far: glow alone", x.point(1, 3), 9);
        for (int spot = 0; spot < 8; spot++) {
            x.die(spot);
            C.due("without the dead", x.point(0, 3), 657 - 81 * (spot + 1));
        }
        C.due("all are dead", x.point(0, 3), 9);
        x.die(7);
        C.due("one is mended", x.point(0, 3), 90);
        x.hang(7);
        C.due("it is taken", x.point(0, 3), 9);
        C.due("the least sum", Checks.lit(OWN + "s5511f0000", 0).point(0, 3), 0);
    }

    private static void served() {
        C.part("A POINT is SERVED, if its SUM is no less than its WANT");
        LampShares x = Checks.lit("L90000000001" + "s0021" + "f0019" + "f5502", 0);
        C.due("just its want", x.point(0, 4), 1);
        C.due("one less than its want", x.point(1, 4), 0);
        C.due("bits", x.count(8), 1);
        x.want(0, 20);
        C.due("one less than its want", x.point(0, 4), 0);
        x.want(1, 1);
        C.due("just its want, by glow", x.point(1, 4), 1);
        C.due("bits", x.count(8), 2);
        LampShares dark = Checks.desk(OWN + "f0000" + "f0001");
        C.due("no light, none wanted", dark.point(0, 4), 1);
        C.due("no light, some wanted", dark.point(1, 4), 0);
        LampShares most = Checks.lit("L90000000009" + "s0091" + "s0011" + "f0099", 0, 1);
        C.due("99 of 99", most.point(0, 4), 1);
        most.die(1);
        C.due("90 of 99", most.point(0, 4), 0);
    }

    private static void turns() {
        C.part("HUNG, DIED, BUILT: to and fro; WANTED: told anew");
        LampShares x = Checks.desk(OWN + "s0011" + "s0011" + "f0050" + "w0001" + "w0001");
        C.due("hang(1)", x.hang(1), 1);
        C.due("bits", x.count(5), 2);
        C.due("die(1)", x.die(1), 1);
        C.due("die(1)", x.die(1), 0);
        C.due("die(1)", x.die(1), 1);
        C.due("hang(1)", x.hang(1), 0);
        C.due("bits", x.count(5), 0);
        C.due("dead bits", x.count(6), 0);
        C.due("build(1)", x.build(1), 0);
        C.due("bits", x.count(7), 1);
        C.due("build(1)", x.build(1), 1);
        C.due("bits", x.count(7), 3);
        C.due("want(0, 99)", x.want(0, 99), 50);
        C.due("want(0, 0)", x.want(0, 0), 99);
        C.due("its want", x.point(0, 2), 0);
    }

    private static void actsAreAtMost14() {
        C.part("ACTS are a row (never more than 14; if it has 14, the first one is forgotten ahead of the next)");
        LampShares x = Checks.desk(OWN + "s0011".repeat(8) + "f0000" + "w0001");
        for (int i = 0; i < 8; i++) {
            x.hang(i);
            C.due("acts", x.count(9), i + 1);
        }
        x.die(0);
        x.die(1);
        x.build(0);
        x.want(0, 1);
        x.want(0, 2);
        C.due("thirteen", x.count(9), 13);
        x.want(0, 3);
        C.due("fourteen", x.count(9), 14);
        x.want(0, 4);
        C.due("still fourteen", x.count(9), 14);
        for (int left = 13; left >= 0; left--) {
            C.due("undo()", x.undo(), left);
        }
        C.due("none is left", x.undo(), STATE);
        C.due("the first one stays done", x.count(5), 1);
        C.due("none dead", x.count(6), 0);
        C.due("the wall stands", x.count(7), 1);
        C.due("the want", x.point(0, 2), 0);
    }

    private static void actsThatAreUndone() {
        C.part("the last one can be undone");
        LampShares x = Checks.desk(OWN + "s0011" + "s0011" + "f0007" + "w0001");
        for (int round = 0; round < 3; round++) {
            x.hang(1);
            x.die(1);
            x.hang(1);
            C.due("undo taking a dead lamp", x.undo(), 2);
            C.due("it hangs there dead", x.spot(1, 4), 2);
            C.due("undo its death", x.undo(), 1);
            C.due("it hangs and lives", x.spot(1, 4), 1);
            x.die(1);
            x.die(1);
            C.due("undo its mending", x.undo(), 2);
            C.due("dead", x.spot(1, 4), 2);
            x.undo();
            C.due("undo its hanging", x.undo(), 0);
            C.due("none there", x.spot(1, 4), 0);
            x.build(0);
            x.build(0);
            C.due("undo building", x.undo(), 1);
            C.due("it does not stand", x.count(7), 0);
            C.due("undo taking away", x.undo(), 0);
            C.due("it stands", x.count(7), 1);
            x.want(0, 99);
            x.want(0, 99);
            C.due("undo the same want", x.undo(), 1);
            C.due("99", x.point(0, 2), 99);
            C.due("undo the want", x.undo(), 0);
            C.due("7", x.point(0, 2), 7);
        }
        for (int i = 0; i < 40; i++) {
            x.want(0, i);
        }
        C.due("undo()", x.undo(), 13);
        x.want(0, 77);
        C.due("an act more", x.count(9), 14);
        for (int i = 0; i < 14; i++) {
            x.undo();
        }
        C.due("as it was ahead of the fourteen", x.point(0, 2), 25);
    }

    private static void actsAreNotRefused() {
        C.part("Each that is not refused is an ACT");
        LampShares x = Checks.desk(OWN + "s0011" + "s0011" + "f0007" + "w0001");
        C.due("hang(2)", x.hang(2), UNKNOWN);
        C.due("die(0)", x.die(0), STATE);
        C.due("build(1)", x.build(1), UNKNOWN);
        C.due("want(0, 100)", x.want(0, 100), Checks.OUTSIDE);
        C.due("no acts", x.count(9), 0);
        x.want(0, 7);
        C.due("the same want is one", x.count(9), 1);
        for (int i = 1; i < 14; i++) {
            x.hang(0);
        }
        x.die(1);
        x.hang(-1);
        x.build(7);
        x.want(1, 0);
        C.due("fourteen", x.count(9), 14);
        for (int left = 13; left >= 0; left--) {
            C.due("none was forgotten for what was refused", x.undo(), left);
        }
        C.due("the lamp", x.spot(0, 4), 0);
        x.hang(0);
        x.keep(0);
        x.see(0, 0, 0);
        x.seed(5);
        x.drawn(2);
        x.judge(1, 1000);
        C.due("no other call is one", x.count(9), 1);
    }
}
