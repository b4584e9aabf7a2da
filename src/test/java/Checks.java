/** What the tests share: answers compared with those that are due, and desks told by a text. */
final class Checks {
    static final int UNKNOWN = -1, OUTSIDE = -2, STATE = -3, FULL = -4, NONE = -9;

    /** THE TABLE has 9 for 0 alone: a LAMP lights its own CELL, by nine times its POWER. GLOW 0. */
    static final String OWN = "L90000000000";
    /** THE TABLE is 9 - q, GLOW 0. */
    static final String FALLING = "L98765432100";

    private int wrong = 0;
    private String part = "";

    void part(String name) {
        part = name;
    }

    void due(String call, long got, long want) {
        if (got != want) {
            wrong++;
            System.out.println(part + ": " + call + " answered " + got + ", due is " + want);
        }
    }

    void same(String what, String got, String want) {
        if (!got.equals(want)) {
            wrong++;
            System.out.println(part + ": " + what + "\n  is  " + got + "\n  due " + want);
        }
    }

    void finish() {
        if (wrong != 0) {
            System.out.println(wrong + " answers are not as due");
            System.exit(1);
        }
    }

    static void tell(LampShares desk, String text) {
        for (int i = 0; i < text.length(); i++) {
            desk.write(text.charAt(i));
        }
    }

    static LampShares desk(String text) {
        LampShares desk = new LampShares();
        tell(desk, text);
        desk.plan();
        return desk;
    }

    static LampShares lit(String text, int... spots) {
        LampShares desk = desk(text);
        for (int spot : spots) {
            desk.hang(spot);
        }
        return desk;
    }

    static void planAnew(LampShares desk, String text) {
        desk.wipe();
        tell(desk, text);
        desk.plan();
    }

    /** Numbers that are none of 0 .. n - 1, those among them that a shift or a product would wrap. */
    static int[] notBelow(int n) {
        return new int[] {n, n + 1, n + 7, 31, 32, 33, 64, 255, 256, 1 << 16, 1 << 29, 1 << 30,
            Integer.MAX_VALUE, Integer.MIN_VALUE, Integer.MIN_VALUE + 1, -32, -9, -4, -3, -2, -1};
    }

    /** All that can be looked at without changing it. */
    static String look(LampShares desk) {
        StringBuilder all = new StringBuilder();
        for (int what = 0; what <= 10; what++) {
            all.append(desk.count(what)).append(' ');
        }
        all.append("| ").append(desk.fault());
        for (int spot = 0; spot < desk.count(1); spot++) {
            all.append(" | s");
            for (int what = 0; what <= 4; what++) {
                all.append(' ').append(desk.spot(spot, what));
            }
        }
        for (int point = 0; point < desk.count(2); point++) {
            all.append(" | f");
            for (int what = 0; what <= 5; what++) {
                all.append(' ').append(desk.point(point, what));
            }
        }
        return all.append(" | ").append(desk.which()).append(' ').append(seedOf(desk)).toString();
    }

    static long seedOf(LampShares desk) {
        long seed = desk.seed(0);
        desk.seed(seed);
        return seed;
    }

    /** In few calls: what ACTS, SLOTS, SEEN and the text are at. */
    private static void stand(LampShares desk, StringBuilder all) {
        int[] whats = {0, 5, 6, 7, 9, 10};
        for (int what : whats) {
            all.append(' ').append(desk.count(what));
        }
        for (int point = 0; point < desk.count(2); point++) {
            all.append(' ').append(desk.point(point, 2));
        }
        all.append(' ').append(desk.which()).append(" |");
    }

    /** What the desk holds: ACTS are undone, SLOTS gone on from, the text is read anew. It is spent then. */
    static String fate(LampShares desk) {
        StringBuilder all = new StringBuilder("seed " + seedOf(desk) + " glow " + desk.count(4) + " |");
        stand(desk, all);
        for (int left = desk.undo(); left >= 0; left = desk.undo()) {
            stand(desk, all);
        }
        for (int slot = 0; slot < 2; slot++) {
            all.append(" slot ").append(desk.again(slot));
            stand(desk, all);
        }
        for (int spot = 0; spot < desk.count(1); spot++) {
            all.append(' ').append(desk.spot(spot, 0)).append(desk.spot(spot, 1)).append(desk.light(spot, 0));
        }
        all.append(" fault ").append(desk.fault()).append(" plan ").append(desk.plan());
        stand(desk, all);
        return all.toString();
    }
}
