/** Each RAY of the floor against each WALL of it, from either end: SHADED just if they have a point in common. */
public final class AllRaysTest {
    private static final Checks C = new Checks();

    private static final int CELLS = 36, CORNERS = 49, AT_ONCE = 6, WALLS_AT_ONCE = 5;

    private final String[] walls = new String[CORNERS * (CORNERS - 1)];

    private AllRaysTest() {
        int made = 0;
        for (int from = 0; from < CORNERS; from++) {
            for (int to = 0; to < CORNERS; to++) {
                if (from != to) {
                    walls[made] = "w" + from / 7 + from % 7 + to / 7 + to % 7;
                    made++;
                }
            }
        }
    }

    public static void main(String[] args) {
        C.part("It is SHADED by a WALL that stands, if they have any point in common (an end, too)");
        AllRaysTest all = new AllRaysTest();
        for (int spots = 0; spots < CELLS; spots += AT_ONCE) {
            for (int points = 0; points < CELLS; points += AT_ONCE) {
                for (int wall = 0; wall < all.walls.length; wall += WALLS_AT_ONCE) {
                    all.lookAt(spots, points, wall);
                }
            }
        }
        C.finish();
    }

    private static String cells(char sign, int from, String rest) {
        StringBuilder parts = new StringBuilder();
        for (int cell = from; cell < from + AT_ONCE; cell++) {
            parts.append(sign).append(cell / 6).append(cell % 6).append(rest);
        }
        return parts.toString();
    }

    private void lookAt(int spots, int points, int firstWall) {
        int count = Math.min(WALLS_AT_ONCE, walls.length - firstWall);
        StringBuilder text = new StringBuilder(Checks.FALLING);
        text.append(cells('s', spots, "11")).append(cells('f', points, "00"));
        for (int i = 0; i < count; i++) {
            text.append(walls[firstWall + i]);
        }
        LampShares desk = Checks.desk(text.toString());
        for (int i = 0; i < count; i++) {
            for (int pair = 0; pair < AT_ONCE * AT_ONCE; pair++) {
                int spot = pair / AT_ONCE, point = pair % AT_ONCE;
                String wall = walls[firstWall + i];
                int due = leastFrom(i, count, spots + spot, points + point, firstWall);
                C.due("cells " + (spots + spot) + ", " + (points + point) + " from " + wall, desk.shade(spot, point), due);
            }
            desk.build(i);
        }
    }

    private int leastFrom(int i, int count, int spot, int point, int firstWall) {
        for (int wall = i; wall < count; wall++) {
            if (haveCommonPoint(spot, point, walls[firstWall + wall])) {
                return wall;
            }
        }
        return Checks.NONE;
    }

    /**
     * In half CELLS. The places a + t / den * (b - a) of the RAY that lie on the WALL's line are one or all or none;
     * whether one of them lies between the WALL's ends is told by whole numbers.
     */
    private static boolean haveCommonPoint(int spot, int point, String wall) {
        int ax = spot / 6 * 2 + 1, ay = spot % 6 * 2 + 1;
        int bx = point / 6 * 2 + 1, by = point % 6 * 2 + 1;
        int cx = 2 * (wall.charAt(1) - '0'), cy = 2 * (wall.charAt(2) - '0');
        int dx = 2 * (wall.charAt(3) - '0'), dy = 2 * (wall.charAt(4) - '0');
        // How far a and b are off the WALL's line, and where along it they lie: 0 at c, whole at d.
        int offA = (dx - cx) * (ay - cy) - (dy - cy) * (ax - cx);
        int offB = (dx - cx) * (by - cy) - (dy - cy) * (bx - cx);
        int alongA = (dx - cx) * (ax - cx) + (dy - cy) * (ay - cy);
        int alongB = (dx - cx) * (bx - cx) + (dy - cy) * (by - cy);
        int whole = (dx - cx) * (dx - cx) + (dy - cy) * (dy - cy);
        if (offA == offB) {
            return offA == 0 && Math.min(alongA, alongB) <= whole && Math.max(alongA, alongB) >= 0;
        }
        // The RAY comes to the line at t = offA / (offA - offB) of its way.
        int den = offA - offB;
        int t = den < 0 ? -offA : offA;
        den = Math.abs(den);
        long there = (long) alongA * (den - t) + (long) alongB * t;
        return t >= 0 && t <= den && there >= 0 && there <= (long) whole * den;
    }
}
