/** Promises 19 to 27: lines drawn, plans, old maps, worth, two hands, and counts. */
public final class MapPromisesTest {
    private static final Checks CHECKS = new Checks("MapPromisesTest");
    private static final String KEY = "s:any(sand);c:any(clay);p:any(peat);";

    public static void main(String[] args) {
        promise19Draw();
        promise20Drawn();
        promise21Plan();
        promise21PlanTies();
        promise22Planned();
        promise23Turned();
        promise24Maps();
        promise25Worth();
        promise26Hands();
        promise26KappaBelowNought();
        promise27Count();
        CHECKS.end();
    }

    private static void due(String call, int got, int want) {
        CHECKS.due(call, got, want);
    }

    private static ClodDesk desk(int w, int h) {
        ClodDesk d = new ClodDesk();
        d.land(w, h);
        Checks.key(d, KEY);
        return d;
    }

    private static void bores(ClodDesk d, int hand, String kinds, int... cells) {
        for (int i = 0; i < cells.length; i++) {
            String tex = kinds.charAt(i) == 's' ? "sand" : kinds.charAt(i) == 'c' ? "clay" : kinds.charAt(i) == 'p' ? "peat" : "silt";
            Checks.bore(d, "0-9 " + tex + " red", hand, cells[i]);
        }
    }

    private static void drawnIs(ClodDesk d, int... kinds) {
        for (int k = 0; k < kinds.length; k++) {
            due("drawn(" + k + ")", d.drawn(k), kinds[k]);
        }
        due("drawn behind", d.drawn(kinds.length), -1);
        due("drawn ahead", d.drawn(-1), -1);
    }

    private static void promise19Draw() {
        ClodDesk none = new ClodDesk();
        due("no kinds", none.draw(0, false, 0), -1);
        ClodDesk d = desk(3, 2);
        due("no such n", d.draw(-1, false, 0), -1);
        due("no such n", d.draw(1, false, 0), -1);
        due("no such row", d.draw(0, false, 2), -1);
        due("no such row", d.draw(0, false, -1), -1);
        due("no such column", d.draw(0, true, 3), -1);
        due("no such column", d.draw(0, true, -1), -1);
        due("the last column", d.draw(0, true, 2), 2 * 667);
        due("the last row", d.draw(0, false, 1), 3 * 667);
        drawnIs(d, 0, 0, 0);
        // rocks part the land: at 0 the clay at 0 is like 12, the peat at 2 like 2 + 4 = 6
        d.ground(2, 1, 1);
        bores(d, 0, "cp", 0, 2);
        int[][] weights = {{1, 193, 97}, {1, 177, 113}, {1, 97, 193}};
        int[][] costs = new int[3][3];
        for (int x = 0; x < 3; x++) {
            for (int k = 0; k < 3; k++) {
                due("weight", d.chance(2, x, k, 0), weights[x][k]);
                costs[x][k] = 1000 - 1000 * weights[x][k] / 291;
            }
        }
        due("one change", d.draw(2, false, 0), costs[0][1] + costs[1][1] + costs[2][2] + 300);
        drawnIs(d, 1, 1, 2);
        // heights that make each cell of the row as steep: the weights stay, the last change is a bend
        d.ground(2, 0, 5);
        d.ground(3, 0, 5);
        due("one bend at its first price", d.draw(2, false, 0), costs[0][1] + costs[1][1] + costs[2][2] + 100);
        d.ground(2, 0, 0);
        d.ground(3, 0, 0);
        d.price(0, 331);
        due("one change is too dear", d.draw(2, false, 0), costs[0][1] + costs[1][1] + costs[2][1]);
        drawnIs(d, 1, 1, 1);
        d.price(0, 0);
        due("as known by 1, 1000 by 195 and 179 and 99 are for the others", d.draw(1, false, 0), 11 + 12 + 21);
        drawnIs(d, 1, 1, 1);
    }

    private static void promise20Drawn() {
        ClodDesk d = desk(2, 3);
        due("none yet", d.drawn(0), -1);
        bores(d, 0, "cc", 0, 5);
        d.draw(2, true, 1);
        drawnIs(d, 1, 1, 1);
        d.draw(0, false, 2);
        drawnIs(d, 0, 0);
        due("not a line", d.draw(0, false, 3), -1);
        drawnIs(d, 0, 0);
        d.land(8, 8);
        Checks.key(d, "");
        due("no kinds", d.draw(0, false, 0), -1);
        drawnIs(d, 0, 0);
        // equal costs: the first by kinds from the first cell on, the change at a free place as late as it may be
        ClodDesk e = desk(4, 2);
        e.price(0, 0);
        e.price(1, 0);
        bores(e, 0, "cs", 0, 0);
        due("free changes, s and c weigh the same", e.chance(2, 0, 0, 0), e.chance(2, 0, 1, 0));
        e.draw(2, false, 0);
        drawnIs(e, 0, 0, 0, 0);
    }

    private static void planIs(ClodDesk d, int days, int... cells) {
        due("days", d.planned(1, -5), days);
        for (int k = 0; k < cells.length; k++) {
            due("planned cell " + k, d.planned(0, k), cells[k]);
        }
        due("planned behind", d.planned(0, cells.length), -1);
    }

    private static void promise21Plan() {
        due("no kinds", new ClodDesk().plan(1, 9, 0), -1);
        ClodDesk d = desk(4, 4);
        int[][] wrong = {{0, 9, 0}, {4, 9, 0}, {-1, 9, 0}, {1, 0, 0}, {1, 61, 0}, {1, -1, 0}, {1, 9, 16}, {1, 9, -1}};
        for (int[] w : wrong) {
            due("no such plan", d.plan(w[0], w[1], w[2]), -1);
        }
        due("where one stands", d.plan(1, 1, 5), 667);
        planIs(d, 1, 5);
        due("two of them take four days", d.plan(2, 3, 5), -1);
        due("two of them", d.plan(2, 4, 5), 2 * 667);
        planIs(d, 4, 5, 7);
        due("three of them", d.plan(3, 60, 0), 3 * 667);
        planIs(d, 7, 0, 2, 10);
        d.ground(15, 3, 99);
        due("six steps and one", d.plan(1, 6, 0), 667);
        due("six steps and one", d.plan(1, 7, 0), 667 * 99);
        planIs(d, 7, 15);
        d.ground(11, 3, 98);
        due("neighbours are not for one plan", d.plan(2, 60, 0), 667 * 100);
        planIs(d, 8, 0, 15);
        bores(d, 0, "s", 15);
        int doubt = d.chance(1, 11, 0, 3);
        due("where a bore counts", d.plan(1, 60, 15), doubt * 98);
        planIs(d, 2, 11);
        d.strike(0);
        due("where a struck one is", d.plan(1, 60, 15), 667 * 99);
        bores(d, 0, "x", 15);
        due("where one without a kind is", d.plan(1, 60, 15), 667 * 99);
        planIs(d, 1, 15);
        for (int cell = 0; cell < 16; cell++) {
            d.ground(cell, 3, 0);
        }
        due("a plan of no worth is one", d.plan(2, 60, 15), 0);
        planIs(d, 4, 15, 7);
    }

    private static void promise21PlanTies() {
        ClodDesk d = desk(5, 5);
        d.ground(0, 3, 2);
        d.ground(4, 3, 2);
        due("both are as far: the first by cells", d.plan(1, 60, 2), 1334);
        planIs(d, 3, 0);
        due("the nearer one", d.plan(1, 60, 3), 1334);
        planIs(d, 2, 4);
        due("both, the nearer one first", d.plan(2, 60, 3), 2668);
        planIs(d, 1 + 1 + 4 + 1, 4, 0);
        due("both, from the middle", d.plan(2, 60, 2), 2668);
        planIs(d, 2 + 1 + 4 + 1, 0, 4);
        due("more sum goes ahead of days", d.plan(2, 8, 22), 2001);
        due("cells and days", d.planned(1, 0), 8);
        due("and here is one on the way", d.plan(3, 9, 2), 3335);
        planIs(d, 9, 0, 2, 4);
    }

    private static void promise22Planned() {
        ClodDesk d = desk(4, 4);
        due("none yet", d.planned(0, 0), -1);
        due("none yet", d.planned(1, 0), -1);
        d.plan(2, 9, 0);
        planIs(d, 4, 0, 2);
        due("not a plan", d.plan(2, 1, 0), -1);
        due("not a plan", d.plan(2, 99, 0), -1);
        planIs(d, 4, 0, 2);
        due("no such what", d.planned(2, 0), -1);
        due("no such what", d.planned(-1, 0), -1);
        due("no such k", d.planned(0, -1), -1);
        d.plan(1, 9, 3);
        planIs(d, 1, 3);
    }

    private static void promise23Turned() {
        ClodDesk d = desk(4, 4);
        int[] classes = {0, 0, 0, 5, 5, -1};
        for (int cell = 0; cell < classes.length; cell++) {
            d.ground(cell, 4, classes[cell]);
        }
        due("without bores", d.turned(0, 8), -1);
        bores(d, 0, "pcps", 0, 0, 1, 2);
        bores(d, 1, "csxc", 3, 4, 4, 5);
        int[] ofNought = {1, 1, 2, 0, 0, 0, 0, 0, 2, -2};
        int[] ofFive = {1, 1, 0, 0, 0, 0, 0, 0, 0, -2};
        for (int what = 0; what < 10; what++) {
            due("turned(0, " + what + ")", d.turned(0, what), ofNought[what]);
            due("turned(5, " + what + ")", d.turned(5, what), ofFive[what]);
        }
        due("no bores there", d.turned(1, 8), -1);
        due("no bores there", d.turned(1, 0), 0);
        due("no such class", d.turned(6, 0), -2);
        due("no such class", d.turned(-1, 8), -2);
        due("no such what", d.turned(0, -1), -2);
        d.strike(0);
        d.strike(2);
        due("struck ones do not count", d.turned(0, 8), 0);
        Checks.key(d, "");
        due("no kinds", d.turned(0, 8), -1);
        due("no kinds", d.turned(0, 0), 0);
    }

    private static void promise24Maps() {
        ClodDesk d = desk(3, 2);
        // classes  0 1 -
        //          1 0 2   with clay at 0, sand at 1: 0 turns to c, 1 to s, 2 to nothing
        int[] classes = {0, 1, -1, 1, 0, 2};
        for (int cell = 0; cell < 6; cell++) {
            d.ground(cell, 4, classes[cell]);
        }
        due("nothing turned", d.maps(1, 0), 0);
        due("nothing agrees", d.maps(0, 0), 0);
        bores(d, 0, "cs", 0, 1);
        int[] bests = {1, 0, 0, 0, 0, 0};
        for (int cell = 0; cell < 6; cell++) {
            due("best at " + cell, d.chance(2, cell, 0, 2), bests[cell]);
        }
        due("agree", d.maps(0, -9), 3);
        due("seam of the old map", d.maps(1, 0), 2);
        due("none where one has no class, or does not turn", d.maps(1, 1), 0);
        due("seam of the bests", d.maps(2, 0), 1);
        due("seam of the bests", d.maps(2, 1), 0);
        int[][] wrong = {{1, 2}, {2, 2}, {1, -1}, {2, -1}, {3, 0}, {-1, 0}};
        for (int[] w : wrong) {
            due("no such seam", d.maps(w[0], w[1]), -1);
        }
        Checks.key(d, "");
        due("no kinds", d.maps(0, 0), 0);
        due("no kinds", d.maps(2, 0), 0);
        due("no kinds, no seam", d.maps(2, 2), -1);
    }

    private static void promise25Worth() {
        due("no kinds", new ClodDesk().worth(0, 0), -1);
        ClodDesk d = desk(2, 2);
        due("nothing is worth anything", d.worth(1, 0), 0);
        d.value(0, 10);
        d.value(1, 20);
        d.value(2, 21);
        due("best is the first", d.worth(0, -1), 40);
        due("51 by 3, cut for each cell", d.worth(1, 1001), 4 * 17);
        due("51 by 3 with more", d.worth(1, 5), 68);
        d.value(2, 22);
        due("52 by 3, cut for each cell", d.worth(1, 0), 4 * 17);
        due("all have 333 parts", d.worth(2, 333), 4);
        due("then best alone is left", d.worth(2, 334), 0);
        due("all of them", d.worth(2, 0), 4);
        due("most", d.worth(2, 1000), 0);
        due("no such p", d.worth(2, -1), -1);
        due("no such p", d.worth(2, 1001), -1);
        due("no such what", d.worth(3, 0), -1);
        due("no such what", d.worth(-1, 0), -1);
        bores(d, 0, "cp", 0, 0);
        // c and p weigh the same everywhere, s 1: best is c; at 0 193 of 387 each, elsewhere 177 of 355
        due("best is the second", d.worth(0, 0), 80);
        due("fair", d.worth(1, 0), (10 + 42 * 193) / 387 + 3 * ((10 + 42 * 177) / 355));
        due("c and p are unlike", d.worth(2, 400), 4);
        due("p stands only where it has 498 parts", d.worth(2, 499), 0);
        due("p stands only where it has 498 parts", d.worth(2, 498), 4);
        d.value(2, 20);
        due("c and p alike", d.worth(2, 400), 0);
        due("s has two parts", d.worth(2, 2), 4);
        due("s has two parts", d.worth(2, 3), 0);
    }

    private static void handsAre(ClodDesk d, int a, int b, int... want) {
        for (int what = 0; what < 5; what++) {
            due("hands(" + a + ", " + b + ", " + what + ")", d.hands(a, b, what), want[what]);
        }
    }

    private static void promise26Hands() {
        ClodDesk d = desk(4, 4);
        int[][] wrong = {{-1, 0, 0}, {3, 0, 0}, {0, -1, 0}, {0, 3, 0}, {1, 1, 0}, {0, 1, 5}, {0, 1, -1}};
        for (int[] w : wrong) {
            due("no such hands", d.hands(w[0], w[1], w[2]), -1000000);
        }
        handsAre(d, 0, 1, 0, 0, 0, 0, 0);
        bores(d, 0, "ss", 0, 1);
        bores(d, 1, "sss", 0, 1, 2);
        handsAre(d, 0, 1, 2, 2, 4, 0, 0);
        bores(d, 0, "ccp", 2, 3, 1);
        bores(d, 1, "cpx", 3, 4, 0);
        // 0: s p c c at 0 1 2 3; 1: s s s c: same at 0 and 3; by chance 1 * 3 + 2 * 1
        handsAre(d, 0, 1, 4, 2, 5, 3, 11);
        handsAre(d, 1, 0, 4, 2, 5, 3, 11);
        handsAre(d, 0, 2, 0, 0, 0, 0, 0);
        d.strike(7);
        // the peat at 1 does not count: s s c c and s s s c: same 3, by chance 2 * 3 + 2 * 1: 4 by 8
        handsAre(d, 0, 1, 4, 3, 8, 1, 2);
    }

    private static void promise26KappaBelowNought() {
        ClodDesk d = desk(4, 4);
        bores(d, 2, "sc", 0, 1);
        bores(d, 1, "cs", 0, 1);
        handsAre(d, 1, 2, 2, 0, 2, -1, 1);
        bores(d, 2, "ss", 2, 3);
        bores(d, 1, "sc", 2, 3);
        // 2: s c s s; 1: c s s c: same 1, by chance 3 * 2 + 1 * 2: -4 by 8
        handsAre(d, 1, 2, 4, 1, 8, -1, 2);
        bores(d, 1, "s", 3);
        // 1: c s s s: same 2, by chance 3 * 3 + 1: -2 by 6
        handsAre(d, 1, 2, 4, 2, 10, -1, 3);
        bores(d, 2, "ss", 1, 5);
        bores(d, 1, "s", 5);
        // 2: s s s s s; 1: c s s s s: no more than chance
        handsAre(d, 1, 2, 5, 4, 20, 0, 1);
    }

    private static void promise27Count() {
        ClodDesk d = desk(5, 7);
        Checks.key(d, "a:always and deep>3;b:always;a:always;");
        bores(d, 0, "sx", 0, 1);
        d.strike(0);
        int[] want = {5, 7, 3, 2, 3, 5, 1, -1};
        for (int what = 0; what < want.length; what++) {
            due("count(" + what + ")", d.count(what), want[what]);
        }
        due("no such what", d.count(-1), -1);
    }
}
