/** What the tests share: answers compared with those that are due, and desks told by a text. */
final class Checks {
    private int wrong = 0;
    private String part = "";

    void part(String name) {
        part = name;
    }

    void due(String call, long got, long want) {
        if (got != want) {
            wrong++;
            System.out.println(part + ": " + call + " answered " + got + ", due is " + want);
        }
    }

    void same(String what, String got, String want) {
        if (!got.equals(want)) {
            wrong++;
            System.out.println(part + ": " + what + "\n  is  " + got + "\n  due " + want);
        }
    }

    void finish() {
        if (wrong != 0) {
            System.out.println(wrong + " answers are not as due");
            System.exit(1);
        }
    }

    static void tell(LampShares desk, String text) {
        for (int i = 0; i < text.length(); i++) {
            desk.write(text.charAt(i));
        }
    }

    static LampShares desk(String text) {
        LampShares desk = new LampShares();
        tell(desk, text);
        desk.plan();
        return desk;
    }

    /** All that can be looked at without changing it. */
    static String look(LampShares desk) {
        StringBuilder all = new StringBuilder();
        for (int what = 0; what <= 10; what++) {
            all.append(desk.count(what)).append(' ');
        }
        all.append("| ").append(desk.fault());
        for (int spot = 0; spot < desk.count(1); spot++) {
            all.append(" | s");
            for (int what = 0; what <= 4; what++) {
                all.append(' ').append(desk.spot(spot, what));
            }
        }
        for (int point = 0; point < desk.count(2); point++) {
            all.append(" | f");
            for (int what = 0; what <= 5; what++) {
                all.append(' ').append(desk.point(point, what));
            }
        }
        long seed = desk.seed(0);
        desk.seed(seed);
        return all.append(" | ").append(desk.which()).append(' ').append(seed).toString();
    }
}
