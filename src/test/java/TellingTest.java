/** Promises 1 to 7, 9 and 27 to 29: what is told of floors, teams and twos, and what is read of it. */
final class TellingTest {
    private static final int LEAST_INT = Integer.MIN_VALUE;
    private static final int MOST_INT = Integer.MAX_VALUE;

    public static void main(String[] args) {
        Due due = new Due("TellingTest");
        newObject(due);
        floor(due);
        floorRefusals(due);
        team(due);
        teamRefusals(due);
        size(due);
        sit(due);
        fix(due);
        two(due);
        twoRefusals(due);
        lift(due);
        teamOf(due);
        free(due);
        count(due);
        fullHouse(due);
        due.end();
    }

    private static void newObject(Due due) {
        FloorPlans x = new FloorPlans();
        for (int what = 0; what <= 6; what++) {
            due.is("new: count(" + what + ")", x.count(what), 0);
        }
        due.refusals("new:", x, 0, 0, 0, 0, 0);
        for (int f = 0; f <= 10; f++) {
            due.is("new: free(" + f + ")", x.free(f), 10040);
        }
        due.is("new: fit()", x.fit(), 1);
        due.is("new: walked()", x.walked(), 0);
        due.is("new: weekends(0)", x.weekends(0), 0);
        due.is("new: kept(0, 0)", x.kept(0, 0), 0);
        due.is("new: kept(0, 1)", x.kept(0, 1), 0);
        due.is("new: teamOf(0, 0)", x.teamOf(0, 0), -1);
        due.is("new: best(1, 1, 0)", x.best(1, 1, 0), -1);
    }

    private static void floor(Due due) {
        FloorPlans x = new FloorPlans();
        int[] first = {40, 0, 10, 19};
        int[] most = {300, 7, 999, 19};
        for (int f = 0; f <= 10; f++) {
            for (int what = 0; what <= 3; what++) {
                String call = "floor(" + f + ", " + what + ", ";
                due.is(call + "most)", x.floor(f, what, most[what]), first[what]);
                due.is(call + "0)", x.floor(f, what, 0), most[what]);
                due.is(call + "1)", x.floor(f, what, 1), 0);
                due.is(call + "1) again", x.floor(f, what, 1), 1);
            }
        }
        FloorPlans y = new FloorPlans();
        y.team(30, 0, 0, 0);
        y.sit(0, 2);
        due.is("fewer seats than sit there", y.floor(2, 0, 5), 40);
        due.is("who sits there stays", y.teamOf(0, 4), 2);
        due.is("the next floor is as it was", y.floor(3, 0, 40), 40);
    }

    private static void floorRefusals(Due due) {
        FloorPlans x = new FloorPlans();
        due.is("floor(-1, 0, 0)", x.floor(-1, 0, 0), -1);
        due.is("floor(11, 0, 0)", x.floor(11, 0, 0), -1);
        due.is("floor(-9, 0, 0)", x.floor(-9, 0, 0), -1);
        due.is("floor(least, 0, 0)", x.floor(LEAST_INT, 0, 0), -1);
        due.is("floor(most, 9, -1): -1 first", x.floor(MOST_INT, 9, -1), -1);
        due.is("floor(0, -1, 0)", x.floor(0, -1, 0), -2);
        due.is("floor(0, 4, 0)", x.floor(0, 4, 0), -2);
        due.is("floor(0, 4, -1): -2 first", x.floor(0, 4, -1), -2);
        due.is("floor(0, most, 9999)", x.floor(0, MOST_INT, 9999), -2);
        for (int what = 0; what <= 3; what++) {
            due.is("floor(0, " + what + ", -1)", x.floor(0, what, -1), -4);
            due.is("floor(0, " + what + ", least)", x.floor(0, what, LEAST_INT), -4);
            due.is("floor(0, " + what + ", most)", x.floor(0, what, MOST_INT), -6);
        }
        due.is("floor(0, 0, 301)", x.floor(0, 0, 301), -6);
        due.is("floor(0, 1, 8)", x.floor(0, 1, 8), -6);
        due.is("floor(0, 2, 1000)", x.floor(0, 2, 1000), -6);
        due.is("floor(0, 3, 20)", x.floor(0, 3, 20), -6);
        due.refusals("floor:", x, 5, 4, 0, 8, 8);
        due.is("refused, seats stay", x.floor(0, 0, 0), 40);
        due.is("refused, kinds stay", x.floor(0, 1, 0), 0);
        due.is("refused, price stays", x.floor(0, 2, 0), 10);
        due.is("refused, lease stays", x.floor(0, 3, 0), 19);
    }

    private static void team(Due due) {
        FloorPlans x = new FloorPlans();
        due.is("team(1, 0, 0, 0)", x.team(1, 0, 0, 0), 0);
        due.is("team(60, 7, 9, 9)", x.team(60, 7, 9, 9), 1);
        for (int t = 2; t < 16; t++) {
            due.is("team " + t, x.team(t, t % 8, t % 10, (t + 3) % 10), t);
        }
        due.is("a seventeenth team", x.team(1, 0, 0, 0), -6);
        due.is("a seventeenth team below: -4 first", x.team(0, 0, 0, 0), -4);
        due.is("teams", x.count(0), 16);
        for (int t = 2; t < 16; t++) {
            due.is("size of " + t, x.teamOf(t, 0), t);
            due.is("needs of " + t, x.teamOf(t, 1), t % 8);
            due.is("loud of " + t, x.teamOf(t, 2), t % 10);
            due.is("noise of " + t, x.teamOf(t, 3), (t + 3) % 10);
            due.is("floor of " + t, x.teamOf(t, 4), -9);
        }
    }

    private static void teamRefusals(Due due) {
        FloorPlans x = new FloorPlans();
        due.is("team(0, 0, 0, 0)", x.team(0, 0, 0, 0), -4);
        due.is("team(1, -1, 0, 0)", x.team(1, -1, 0, 0), -4);
        due.is("team(1, 0, -1, 0)", x.team(1, 0, -1, 0), -4);
        due.is("team(1, 0, 0, -1)", x.team(1, 0, 0, -1), -4);
        due.is("team(61, 8, 10, -1): -4 first", x.team(61, 8, 10, -1), -4);
        due.is("team(61, 0, 0, 0)", x.team(61, 0, 0, 0), -6);
        due.is("team(1, 8, 0, 0)", x.team(1, 8, 0, 0), -6);
        due.is("team(1, 0, 10, 0)", x.team(1, 0, 10, 0), -6);
        due.is("team(1, 0, 0, 10)", x.team(1, 0, 0, 10), -6);
        due.refusals("team:", x, 0, 0, 0, 5, 4);
        due.is("no team was made", x.count(0), 0);
    }

    private static void size(Due due) {
        FloorPlans x = new FloorPlans();
        due.is("size(0, 1) of no team", x.size(0, 1), -1);
        x.team(7, 0, 0, 0);
        x.team(8, 0, 0, 0);
        due.is("size(0, 60)", x.size(0, 60), 7);
        due.is("size(0, 1)", x.size(0, 1), 60);
        due.is("size(1, 9)", x.size(1, 9), 8);
        due.is("teamOf(0, 0)", x.teamOf(0, 0), 1);
        due.is("size(-1, 0): -1 first", x.size(-1, 0), -1);
        due.is("size(2, 61): -1 first", x.size(2, 61), -1);
        due.is("size(0, 0)", x.size(0, 0), -4);
        due.is("size(0, 61)", x.size(0, 61), -6);
        due.refusals("size:", x, 3, 0, 0, 1, 1);
        due.is("refused, it stays", x.teamOf(0, 0), 1);
    }

    private static void sit(Due due) {
        FloorPlans x = new FloorPlans();
        due.is("sit(0, 0) of no team", x.sit(0, 0), -1);
        x.team(60, 7, 9, 0);
        x.team(60, 7, 9, 0);
        due.is("sit(0, 10)", x.sit(0, 10), -9);
        due.is("sit(1, 10): nothing else is asked", x.sit(1, 10), -9);
        due.is("sit(0, 0)", x.sit(0, 0), 10);
        due.is("sit(0, -9)", x.sit(0, -9), 0);
        due.is("sit(0, -9) again", x.sit(0, -9), -9);
        due.is("sit(0, -1)", x.sit(0, -1), -1);
        due.is("sit(0, 11)", x.sit(0, 11), -1);
        due.is("sit(0, -8)", x.sit(0, -8), -1);
        due.is("sit(2, 0)", x.sit(2, 0), -1);
        due.is("sit(-1, -9)", x.sit(-1, -9), -1);
        x.fix(1, true);
        due.is("sit(1, 3) of a fixed one", x.sit(1, 3), -3);
        due.is("sit(1, 10) of a fixed one to where it is", x.sit(1, 10), -3);
        due.is("sit(1, -9) of a fixed one", x.sit(1, -9), -3);
        due.is("sit(1, 11) of a fixed one: -1 first", x.sit(1, 11), -1);
        due.refusals("sit:", x, 7, 0, 3, 0, 0);
        due.is("a fixed one stays", x.teamOf(1, 4), 10);
        x.fix(1, false);
        due.is("sit(1, 3) when free again", x.sit(1, 3), 10);
    }

    private static void fix(Due due) {
        FloorPlans x = new FloorPlans();
        due.is("fix(0, true) of no team", x.fix(0, true), -1);
        x.team(1, 0, 0, 0);
        x.team(1, 0, 0, 0);
        due.is("fix(0, false) as it was", x.fix(0, false), 0);
        due.is("fix(0, true)", x.fix(0, true), 1);
        due.is("fix(0, true) again", x.fix(0, true), 0);
        due.is("teamOf(0, 5)", x.teamOf(0, 5), 1);
        due.is("teamOf(1, 5)", x.teamOf(1, 5), 0);
        due.is("fix(0, false)", x.fix(0, false), 1);
        due.is("fix(0, false) again", x.fix(0, false), 0);
        due.is("fix(2, false)", x.fix(2, false), -1);
        due.is("fix(-1, true)", x.fix(-1, true), -1);
        due.refusals("fix:", x, 3, 0, 0, 0, 0);
    }

    private static void two(Due due) {
        FloorPlans x = new FloorPlans();
        x.team(1, 0, 0, 0);
        x.team(1, 0, 0, 0);
        x.team(1, 0, 0, 0);
        due.is("two(0, 1, 0, 99)", x.two(0, 1, 0, 99), 0);
        due.is("two(1, 0, 0, 5): the other way round", x.two(1, 0, 0, 5), 99);
        due.is("two(0, 1, 0, 0)", x.two(0, 1, 0, 0), 5);
        due.is("two(0, 2, 0, 0): others are as they were", x.two(0, 2, 0, 0), 0);
        due.is("two(2, 1, 1, 1)", x.two(2, 1, 1, 1), 0);
        due.is("two(1, 2, 1, 1)", x.two(1, 2, 1, 1), 1);
        due.is("two(1, 2, 2, 1): near is not barred", x.two(1, 2, 2, 1), 0);
        due.is("two(2, 1, 2, 0)", x.two(2, 1, 2, 0), 1);
        due.is("two(2, 1, 1, 0)", x.two(2, 1, 1, 0), 1);
        due.is("two(2, 1, 0, 0)", x.two(2, 1, 0, 0), 0);
    }

    private static void twoRefusals(Due due) {
        FloorPlans x = new FloorPlans();
        x.team(1, 0, 0, 0);
        x.team(1, 0, 0, 0);
        due.is("two(0, 0, 0, 0) of one", x.two(0, 0, 0, 0), -1);
        due.is("two(0, 2, 0, 0)", x.two(0, 2, 0, 0), -1);
        due.is("two(2, 0, 0, 0)", x.two(2, 0, 0, 0), -1);
        due.is("two(-1, 0, 9, -1): -1 first", x.two(-1, 0, 9, -1), -1);
        due.is("two(0, -1, 0, 0)", x.two(0, -1, 0, 0), -1);
        due.is("two(0, 1, -1, 0)", x.two(0, 1, -1, 0), -2);
        due.is("two(0, 1, 3, -1): -2 first", x.two(0, 1, 3, -1), -2);
        due.is("two(0, 1, 0, -1)", x.two(0, 1, 0, -1), -4);
        due.is("two(0, 1, 1, -1)", x.two(0, 1, 1, -1), -4);
        due.is("two(0, 1, 2, -1)", x.two(0, 1, 2, -1), -4);
        due.is("two(0, 1, 0, 100)", x.two(0, 1, 0, 100), -6);
        due.is("two(0, 1, 1, 2)", x.two(0, 1, 1, 2), -6);
        due.is("two(0, 1, 2, 2)", x.two(0, 1, 2, 2), -6);
        due.refusals("two:", x, 5, 2, 0, 3, 3);
        for (int what = 0; what <= 2; what++) {
            due.is("refused, " + what + " stays", x.two(0, 1, what, 0), 0);
        }
    }

    private static void lift(Due due) {
        FloorPlans x = new FloorPlans();
        due.is("lift(9)", x.lift(9), 1);
        due.is("lift(1)", x.lift(1), 9);
        due.is("lift(4)", x.lift(4), 1);
        due.is("lift(0)", x.lift(0), -4);
        due.is("lift(-5)", x.lift(-5), -4);
        due.is("lift(10)", x.lift(10), -6);
        due.refusals("lift:", x, 0, 0, 0, 2, 1);
        due.is("refused, it stays", x.lift(1), 4);
    }

    private static void teamOf(Due due) {
        FloorPlans x = new FloorPlans();
        due.is("teamOf(0, 0) of no team", x.teamOf(0, 0), -1);
        x.team(11, 5, 3, 4);
        int[] first = {11, 5, 3, 4, -9, 0, -9, 0, 0};
        for (int what = 0; what <= 8; what++) {
            due.is("teamOf(0, " + what + ") at first", x.teamOf(0, what), first[what]);
        }
        x.size(0, 12);
        x.sit(0, 6);
        x.fix(0, true);
        x.target(0, 0);
        x.person(0, 0, 64);
        x.person(0, 31, 0);
        x.floor(6, 1, 2);
        x.turn(6);
        x.turn(6);
        x.turn(6);
        int[] later = {12, 5, 3, 4, 6, 1, 0, 2, 3};
        for (int what = 0; what <= 8; what++) {
            due.is("teamOf(0, " + what + ") later", x.teamOf(0, what), later[what]);
        }
        due.is("teamOf(1, 0)", x.teamOf(1, 0), -1);
        due.is("teamOf(-1, 9): -1 first", x.teamOf(-1, 9), -1);
        due.is("teamOf(0, 9)", x.teamOf(0, 9), -2);
        due.is("teamOf(0, -1)", x.teamOf(0, -1), -2);
        due.refusals("teamOf:", x, 3, 2, 0, 0, 0);
    }

    private static void free(Due due) {
        FloorPlans x = new FloorPlans();
        x.team(30, 0, 0, 0);
        x.team(25, 0, 0, 0);
        x.team(5, 0, 0, 0);
        x.sit(0, 10);
        due.is("free(10) with 30 of 40", x.free(10), 10010);
        x.sit(1, 10);
        due.is("free(10) with 55 of 40", x.free(10), 9985);
        x.floor(10, 0, 0);
        due.is("free(10) with 55 of 0", x.free(10), 9945);
        due.is("free(0)", x.free(0), 10040);
        x.size(1, 60);
        due.is("free(10) with 90 of 0", x.free(10), 9910);
        due.is("free(-1)", x.free(-1), -1);
        due.is("free(11)", x.free(11), -1);
        due.is("free(-9)", x.free(-9), -1);
        due.refusals("free:", x, 3, 0, 0, 0, 0);
    }

    private static void count(Due due) {
        FloorPlans x = new FloorPlans();
        for (int t = 0; t < 5; t++) {
            x.team(1, 0, 0, 0);
        }
        x.sit(0, 0);
        x.sit(1, 10);
        x.sit(2, 3);
        x.sit(2, -9);
        x.fix(3, true);
        x.two(0, 1, 1, 1);
        x.two(1, 2, 1, 1);
        x.two(4, 2, 1, 1);
        x.two(3, 4, 2, 1);
        x.two(0, 3, 2, 1);
        x.two(0, 4, 0, 50);
        x.target(0, 0);
        x.target(4, 1);
        x.target(3, 9);
        x.target(3, -9);
        x.person(0, 0, 64);
        x.person(0, 0, 64);
        x.person(4, 0, 64);
        int[] want = {5, 2, 1, 3, 2, 2, 3};
        for (int what = 0; what <= 6; what++) {
            due.is("count(" + what + ")", x.count(what), want[what]);
        }
        int[] none = {-1, 7, 8, 9, 10, 17, LEAST_INT, MOST_INT};
        for (int what : none) {
            due.is("count(" + what + ")", x.count(what), -9);
        }
        due.refusals("another what is no refusal:", x, 0, 0, 0, 0, 0);
    }

    /** Sixteen teams on all floors with all that can be told: every call answers. */
    private static void fullHouse(Due due) {
        FloorPlans x = new FloorPlans();
        for (int t = 0; t < 16; t++) {
            x.team(10, 0, 0, 9);
            x.sit(t, t < 11 ? t : 10);
            x.grow(t, t, 20);
            x.person(t, 0, 32);
        }
        x.floor(10, 0, 60);
        x.floor(10, 1, 2);
        x.two(15, 0, 0, 3);
        x.two(15, 0, 1, 1);
        x.two(14, 15, 2, 1);
        x.two(15, 13, 1, 1);
        due.is("full: fit()", x.fit(), 0);
        x.two(15, 13, 1, 0);
        due.is("full: fit() again", x.fit(), 1);
        due.is("full: walked()", x.walked(), 30);
        due.is("full: free(10)", x.free(10), 10000);
        int[] want = {16, 16, 0, 1, 1, 0, 16};
        for (int what = 0; what <= 6; what++) {
            due.is("full: count(" + what + ")", x.count(what), want[what]);
        }
        due.is("full: best(1536, 32768, 0)", x.best(1536, 32768, 0), 27);
        due.is("full: bestOf(1536, 32768, 15)", x.bestOf(1536, 32768, 15), 9);
        due.is("full: seat(1536, 32768)", x.seat(1536, 32768), 1);
        x.target(15, 0);
        due.is("full: weekends(0)", x.weekends(0), 1);
        due.is("full: move(0, 0, 0)", x.move(0, 0, 0), 15);
        due.is("full: move(0, 0, 1)", x.move(0, 0, 1), 0);
        due.is("full: go(0)", x.go(0), 1);
        due.is("full: fix(15, true)", x.fix(15, true), 1);
        due.is("full: best(1, 32768, 0)", x.best(1, 32768, 0), -3);
        due.is("full: bill(15)", x.bill(15), 200);
        due.is("full: turn(10)", x.turn(10), 10);
        due.is("full: kept(19, 0)", x.kept(19, 0), 255);
        due.is("full: desks(15)", x.desks(15), 1);
        due.is("full: lack(15, 0, 4)", x.lack(15, 0, 4), 1 << 29);
        due.is("full: least(15, 499)", x.least(15, 499), 1);
        due.is("full: sizeIn(15, 14)", x.sizeIn(15, 14), 10);
        due.is("full: sizeIn(15, 15)", x.sizeIn(15, 15), 20);
        due.refusals("full:", x, 0, 0, 1, 0, 0);
    }
}
