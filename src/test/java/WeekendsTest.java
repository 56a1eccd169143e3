/** Promises 14 to 17: targets, the fewest weekends, the first row of moves, and that it is gone. */
final class WeekendsTest {
    public static void main(String[] args) {
        Due due = new Due("WeekendsTest");
        target(due);
        nothingToDo(due);
        independentMoves(due);
        swapOverSwingFloors(due);
        onlyTeamsWithTargetsMove(due);
        fullFloors(due);
        firstRow(due);
        limits(due);
        refusals(due);
        moveRefusals(due);
        go(due);
        goRefusals(due);
        due.end();
    }

    /** Teams of one size, team t on floor t, whose floors hold just one of them. */
    private static FloorPlans packed(int n) {
        FloorPlans x = new FloorPlans();
        for (int t = 0; t < n; t++) {
            x.team(10, 7, 9, 0);
            x.sit(t, t);
        }
        for (int f = 0; f <= 10; f++) {
            x.floor(f, 0, 10);
        }
        return x;
    }

    private static void row(Due due, String name, FloorPlans x, int swing, int... moves) {
        due.is(name + ": weekends", x.weekends(swing), moves.length / 2);
        for (int i = 0; i < moves.length / 2; i++) {
            due.is(name + ": team of move " + i, x.move(swing, i, 0), moves[2 * i]);
            due.is(name + ": floor of move " + i, x.move(swing, i, 1), moves[2 * i + 1]);
        }
        due.is(name + ": no further move", x.move(swing, moves.length / 2, 0), -9);
    }

    private static void target(Due due) {
        FloorPlans x = new FloorPlans();
        due.is("target(0, 0) of no team", x.target(0, 0), -1);
        x.team(1, 0, 0, 0);
        x.fix(0, true);
        due.is("target(0, 10)", x.target(0, 10), -9);
        due.is("target(0, 0)", x.target(0, 0), 10);
        due.is("teamOf(0, 6)", x.teamOf(0, 6), 0);
        due.is("target(0, -9)", x.target(0, -9), 0);
        due.is("target(0, -9) again", x.target(0, -9), -9);
        due.is("target(0, 11)", x.target(0, 11), -1);
        due.is("target(0, -1)", x.target(0, -1), -1);
        due.is("target(1, 0)", x.target(1, 0), -1);
        due.is("target(-1, 0)", x.target(-1, 0), -1);
        due.refusals("target:", x, 5, 0, 0, 0, 0);
        due.is("refused, it stays", x.teamOf(0, 6), -9);
    }

    private static void nothingToDo(Due due) {
        FloorPlans x = packed(2);
        row(due, "no targets", x, 0);
        row(due, "no targets but swing floors", x, 31);
        x.target(0, 0);
        row(due, "on its target", x, 0);
        x.floor(0, 0, 0);
        row(due, "on its target though it is too full", x, 0);
    }

    private static void independentMoves(Due due) {
        FloorPlans x = packed(2);
        x.target(1, 9);
        x.target(0, 8);
        row(due, "to empty floors", x, 0, 0, 8, 1, 9);
        x.target(0, 1);
        row(due, "one makes way for the other", x, 0, 1, 9, 0, 1);
        row(due, "a swing floor is not needed", x, 16, 1, 9, 0, 1);
        due.is("move -1", x.move(0, -1, 0), -9);
        due.is("move 2147483647", x.move(0, Integer.MAX_VALUE, 1), -9);
        due.is("move -2147483648", x.move(0, Integer.MIN_VALUE, 1), -9);
        due.refusals("no such move is no refusal:", x, 0, 0, 0, 0, 0);
    }

    private static void swapOverSwingFloors(Due due) {
        FloorPlans x = packed(3);
        x.target(0, 1);
        x.target(1, 0);
        row(due, "least team over the least floor", x, 1 << 4 | 1 << 7, 0, 4, 1, 0, 0, 1);
        x.floor(4, 0, 9);
        row(due, "the least floor that has room", x, 1 << 4 | 1 << 7, 0, 7, 1, 0, 0, 1);
        x.size(1, 9);
        row(due, "the smaller one steps aside", x, 1 << 4, 1, 4, 0, 1, 1, 0);
        due.is("no swing floor", x.weekends(0), -9);
        due.is("no row: move(0, 0, 0)", x.move(0, 0, 0), -9);
        due.is("a swing floor that is taken", x.weekends(1 << 2), -9);
        x.target(2, 0);
        x.target(1, 2);
        row(due, "a ring of three", x, 1 << 5, 0, 5, 2, 0, 1, 2, 0, 1);
    }

    private static void onlyTeamsWithTargetsMove(Due due) {
        FloorPlans x = packed(3);
        x.target(0, 1);
        due.is("one without a target is in the way", x.weekends(2044 & 31), -9);
        x.target(1, 1);
        due.is("its target is the other's", x.weekends(1 << 5), -9);
        x.floor(1, 0, 20);
        row(due, "room for both", x, 0, 0, 1);
        x.target(1, 2);
        due.is("the third does not step aside", x.weekends(1 << 5), -9);
        x.target(2, 2);
        x.floor(2, 0, 20);
        row(due, "it stays, there is room", x, 0, 0, 1, 1, 2);
    }

    private static void fullFloors(Due due) {
        FloorPlans x = packed(3);
        x.sit(1, 0);
        x.sit(2, 0);
        x.target(0, 0);
        x.target(1, 5);
        row(due, "away from a floor that is too full", x, 0, 1, 5);
        x.target(0, 5);
        due.is("two to a floor with room for one", x.weekends(0), -9);
        x.floor(5, 0, 20);
        row(due, "two to a floor with room for two", x, 0, 0, 5, 1, 5);
        x.floor(5, 0, 19);
        due.is("two to a floor with room for less than two", x.weekends(0), -9);
        x.target(0, -9);
        x.target(1, -9);
        x.target(2, 1);
        x.floor(1, 0, 9);
        due.is("less free than its size", x.weekends(0), -9);
        x.floor(1, 0, 10);
        row(due, "just so many free as its size", x, 0, 2, 1);
    }

    private static void firstRow(Due due) {
        FloorPlans x = packed(4);
        x.size(3, 5);
        x.floor(4, 0, 5);
        x.target(0, 1);
        x.target(1, 0);
        x.target(3, 3);
        row(due, "a small one steps aside first", x, 1 << 4, 3, 4, 0, 3, 1, 0, 0, 1, 3, 3);
        x.floor(3, 0, 15);
        row(due, "or need not", x, 1 << 4, 0, 3, 1, 0, 0, 1);
        x.target(3, 4);
        row(due, "its own move waits", x, 0, 0, 3, 1, 0, 0, 1, 3, 4);
    }

    private static void limits(Due due) {
        FloorPlans x = packed(7);
        for (int t = 0; t < 6; t++) {
            x.sit(t, t % 4);
            x.target(t, (t + 1) % 4);
        }
        for (int f = 0; f < 4; f++) {
            x.floor(f, 0, f < 3 ? 20 : 10);
        }
        row(due, "six teams, five floors", x, 1 << 10,
            1, 2, 0, 1, 3, 0, 2, 3, 5, 2, 4, 1);
    }

    private static void refusals(Due due) {
        FloorPlans x = packed(7);
        due.is("weekends(2048)", x.weekends(2048), -1);
        due.is("weekends(-1)", x.weekends(-1), -1);
        due.is("weekends(-2147483648)", x.weekends(Integer.MIN_VALUE), -1);
        due.is("six swing floors", x.weekends(63), -6);
        x.target(0, 10);
        due.is("three of the swing, one of the team, one of the target", x.weekends(14), 1);
        due.is("four of the swing, one of the team, one of the target", x.weekends(30), -6);
        due.is("floors are counted once", x.weekends(1024 + 15), 1);
        x.fix(0, true);
        due.is("a fixed one", x.weekends(0), -3);
        due.is("a fixed one: -1 first", x.weekends(4096), -1);
        due.is("a fixed one: -3 before -6", x.weekends(2047), -3);
        x.fix(0, false);
        x.fix(1, true);
        due.is("a fixed one without a target", x.weekends(0), 1);
        x.sit(0, -9);
        due.is("one that does not sit", x.weekends(0), -3);
        due.is("one that does not sit: -3 before -6", x.weekends(2047), -3);
        x.sit(0, 0);
        x.fix(1, false);
        for (int t = 0; t < 7; t++) {
            x.sit(t, t % 2);
            x.target(t, t % 2);
        }
        due.is("seven teams", x.weekends(0), -6);
        x.target(3, -9);
        due.is("six teams", x.weekends(0), 0);
        due.refusals("weekends:", x, 4, 0, 4, 0, 3);
    }

    private static void moveRefusals(Due due) {
        FloorPlans x = packed(7);
        x.target(0, 9);
        due.is("move(2048, 0, 7): -1 first", x.move(2048, 0, 7), -1);
        due.is("move(0, 0, 2)", x.move(0, 0, 2), -2);
        due.is("move(0, 0, -1)", x.move(0, 0, -1), -2);
        due.is("move(0, 99, 2): -2 before there is none such", x.move(0, 99, 2), -2);
        due.is("move(2047, 0, 7): -6 before -2", x.move(2047, 0, 7), -6);
        x.target(0, 1);
        due.is("move(0, 0, 2) without a row", x.move(0, 0, 2), -2);
        due.is("move(0, 0, 1) without a row", x.move(0, 0, 1), -9);
        x.fix(0, true);
        due.is("move(0, 0, 7): -3 before -2", x.move(0, 0, 7), -3);
        due.refusals("move:", x, 1, 4, 1, 0, 1);
    }

    private static void go(Due due) {
        FloorPlans x = packed(4);
        x.target(0, 1);
        x.target(1, 0);
        x.target(2, 2);
        due.is("go(32)", x.go(32), 3);
        due.is("team 0", x.teamOf(0, 4), 1);
        due.is("team 1", x.teamOf(1, 4), 0);
        due.is("team 2", x.teamOf(2, 4), 2);
        due.is("team 3", x.teamOf(3, 4), 3);
        due.is("no targets", x.count(5), 0);
        due.is("no target of 2", x.teamOf(2, 6), -9);
        due.is("weekends(0) behind it", x.weekends(0), 0);
        x.target(3, 3);
        due.is("go(0) of one on its target", x.go(0), 0);
        due.is("its target is told no more", x.teamOf(3, 6), -9);
        due.is("go(0) without targets", x.go(0), 0);
        due.refusals("go:", x, 0, 0, 0, 0, 0);
    }

    private static void goRefusals(Due due) {
        FloorPlans x = packed(3);
        x.target(0, 1);
        due.is("go(0): there is no row", x.go(0), -3);
        due.is("refused, it stays", x.teamOf(0, 4), 0);
        due.is("refused, its target stays", x.teamOf(0, 6), 1);
        due.is("go(2048)", x.go(2048), -1);
        due.is("go(2047)", x.go(2047), -6);
        x.fix(0, true);
        due.is("go(2047): -3 before -6", x.go(2047), -3);
        due.refusals("go:", x, 1, 0, 2, 0, 1);
    }
}
