/** Boundary cases of weekends: targets, moves, the fewest of them, the first row, and that it is gone. */
final class WeekendEdges {
    private static final String TOLD = Edges.TOLD;
    /** Two teams that fill their floors, each of which wants to be on the other's. */
    private static final String SWAP = "team(40, 0, 0, 0); team(40, 0, 0, 0); sit(0, 0); sit(1, 1); target(0, 1); target(1, 0);";
    private static final String SIX = Edges.each(0, 5, "team(1, 0, 0, 0); sit(#, 0); target(#, 1)");
    private static final String SEVEN = Edges.each(0, 6, "team(1, 0, 0, 0); sit(#, 0); target(#, 1)");

    private WeekendEdges() {
    }

    static void run(Edges e) {
        targets(e);
        moves(e);
        teamsWithTargets(e);
        floorsAndSwingFloors(e);
        onTheirTargets(e);
        firstRow(e);
        promise14(e);
        promise15(e);
        promise16(e);
        promise17(e);
    }

    private static void targets(Edges e) {
        e.says("Terms", "==== II. WEEKENDS: a TARGET: a FLOOR for each of some TEAMS (told one by one; others stay).");
        e.row(Edges.each(0, 2, "team(1, 0, 0, 0); sit(#, #)"), "target(0, 10) = -9; target(0, 9) = 10; weekends(0) = 1; move(0, 0, 1) = 9",
            "target(2, 0) = -9; weekends(0) = 2; target(2, -9) = 0; weekends(0) = 1; go(0) = 1; teamOf(0, 4) = 9; teamOf(1, 4) = 1",
            "teamOf(2, 4) = 2");
        e.row(Edges.each(0, 15, "team(1, 0, 0, 0); sit(#, 3); target(#, 4)"), "count(5) = 16; weekends(0) = -6",
            Edges.each(0, 9, "target(#, -9) = 4"), "count(5) = 6; weekends(0) = 6; go(0) = 6; teamOf(9, 4) = 3; teamOf(10, 4) = 4");
    }

    private static void moves(Edges e) {
        e.says("Terms", "A MOVE: one TEAM, not FIXED, that sits, goes to another FLOOR with so many free SEATS as it has SIZE "
            + "(nothing else is asked).");
        e.row("team(40, 0, 0, 0); sit(0, 0); target(0, 10); weekends(0) = 1; size(0, 41); weekends(0) = -9; floor(10, 0, 41)",
            "weekends(0) = 1; team(10, 0, 0, 0); sit(1, 10); weekends(0) = -9; floor(10, 0, 50); weekends(0) = -9; floor(10, 0, 51)",
            "weekends(0) = 1; floor(10, 0, 0); weekends(0) = -9; floor(10, 0, 51); floor(0, 0, 0); weekends(0) = 1; go(0) = 1");
        // Nothing but seats: kinds, noise, barred and near ones are not looked at.
        e.row("team(1, 7, 9, 0); team(1, 7, 9, 0); team(1, 0, 0, 0); two(0, 1, 1, 1); two(0, 2, 2, 1); sit(0, 0); sit(1, 10); sit(2, 0)",
            "target(0, 10); weekends(0) = 1; go(0) = 1; teamOf(0, 4) = 10; fit() = 0");
        // A fixed one and one that does not sit may be told a target, but there is no move of them.
        e.refused("team(1, 0, 0, 0); sit(0, 0); target(0, 1); fix(0, true)", -3, "weekends(0)", "go(0)");
        e.refused("team(1, 0, 0, 0); target(0, 1)", -3, "weekends(0)", "go(0)");
        // It goes to another floor: one that is where it wants to be makes no move, however full it is there.
        e.row("team(60, 0, 0, 0); sit(0, 10); target(0, 10); weekends(0) = 0; move(0, 0, 0) = -9; go(0) = 0; teamOf(0, 4) = 10");
    }

    private static void teamsWithTargets(Edges e) {
        e.says("Terms", "FEWEST WEEKENDS: the least number of MOVES, one a weekend, of TEAMS with a TARGET alone (6 at most),");
        e.row(SIX, "weekends(0) = 6; team(1, 0, 0, 0); sit(6, 0); weekends(0) = 6; target(6, 0); weekends(0) = -6; target(6, -9); go(0) = 6");
        e.refused(SEVEN, -6, "weekends(0)", "move(0, 0, 0)", "go(0)");
        // One without a target does not make way; with its own floor as target it does, and comes back.
        String inTheWay = "team(40, 0, 0, 0); team(40, 0, 0, 0); team(40, 0, 0, 0); sit(0, 0); sit(1, 1); sit(2, 2);"
            + "target(0, 1); target(1, 0); floor(3, 0, 40)";
        e.row(inTheWay, "weekends(4) = -9; weekends(8) = 3; target(2, 2); weekends(0) = -9; weekends(8) = 3");
        e.row(inTheWay, "size(2, 5); floor(3, 0, 5); weekends(12) = -9; target(2, 2); weekends(8) = 5; move(8, 0, 0) = 2",
            "move(8, 0, 1) = 3; move(8, 4, 0) = 2; move(8, 4, 1) = 2; weekends(0) = -9");
        e.row("weekends(0) = 0; team(1, 0, 0, 0); weekends(0) = 0; sit(0, 0); weekends(0) = 0; fix(0, true); weekends(0) = 0");
    }

    private static void floorsAndSwingFloors(Edges e) {
        e.says("Terms", "among FLOORS of TARGETS, those on which these TEAMS sit, and SWING FLOORS (told, a set), 5 FLOORS in all at most,");
        e.row(SWAP, "weekends(0) = -9; weekends(3) = -9; weekends(4) = 3; weekends(1024) = 3; floor(10, 0, 39); weekends(1024) = -9",
            "floor(10, 0, 40); team(1, 0, 0, 0); sit(2, 10); weekends(1024) = -9; weekends(1028) = 3; weekends(28) = 3; weekends(60) = -6",
            "weekends(31) = 3; weekends(63) = -6");
        e.row("team(1, 0, 0, 0); sit(0, 0); target(0, 10); weekends(14) = 1; weekends(30) = -6; weekends(1039) = 1; weekends(1055) = -6");
        String three = Edges.each(0, 2, "team(1, 0, 0, 0); sit(#, #)");
        e.row(three, "target(0, 3); target(1, 4); target(2, 0); weekends(0) = 3; weekends(31) = 3; weekends(32) = -6; target(2, 5)",
            "weekends(0) = -6; sit(2, 5); weekends(0) = 2; weekends(4) = -6; target(2, -9); weekends(0) = 2; weekends(32) = 2; weekends(96) = -6");
        // Six teams and five floors, the most of both: all to the highest, and two rings of moves over the one free floor.
        e.row(Edges.each(0, 5, "team(1, 0, 0, 0); sit(#, 0); target(#, 10)"), "weekends(14) = 6; move(14, 5, 0) = 5; move(14, 5, 1) = 10; go(14) = 6");
        e.row("team(10, 0, 0, 0); team(10, 0, 0, 0); team(10, 0, 0, 0); team(10, 0, 0, 0); team(10, 0, 0, 0); team(10, 0, 0, 0)",
            "sit(0, 0); sit(1, 0); sit(2, 1); sit(3, 1); sit(4, 2); sit(5, 3); floor(0, 0, 20); floor(1, 0, 20); floor(2, 0, 10)",
            "floor(3, 0, 10); floor(4, 0, 10); target(0, 1); target(1, 1); target(2, 0); target(3, 0); target(4, 3); target(5, 2)",
            "weekends(0) = -9; weekends(16) = 8; move(16, 0, 0) = 0; move(16, 0, 1) = 4; move(16, 1, 0) = 2; move(16, 1, 1) = 0",
            "move(16, 2, 0) = 1; move(16, 2, 1) = 1; move(16, 3, 0) = 3; move(16, 3, 1) = 0; move(16, 4, 0) = 0; move(16, 4, 1) = 1",
            "move(16, 5, 0) = 4; move(16, 5, 1) = 4; move(16, 6, 0) = 5; move(16, 6, 1) = 2; move(16, 7, 0) = 4; move(16, 7, 1) = 3",
            "move(16, 8, 0) = -9");
        // Nobody has a target: the swing floors alone are counted.
        e.row("weekends(31) = 0; weekends(1984) = 0; weekends(63) = -6; weekends(2047) = -6");
    }

    private static void onTheirTargets(Edges e) {
        e.says("Terms", "behind which all sit on their TARGETS.");
        e.row("team(20, 0, 0, 0); team(21, 0, 0, 0); sit(0, 0); sit(1, 1); target(0, 2); target(1, 2); weekends(0) = -9; weekends(24) = -9",
            "size(1, 20); weekends(0) = 2; go(0) = 2; teamOf(0, 4) = 2; teamOf(1, 4) = 2; free(2) = 10000");
        // Both are where they want to be, on a floor too small for them: nothing is to do.
        e.row("team(40, 0, 0, 0); team(40, 0, 0, 0); sit(0, 0); sit(1, 0); target(0, 0); target(1, 0); weekends(0) = 0; go(0) = 0; count(5) = 0");
        // One leaves a floor that is too full and the other can not come back to it.
        e.row("team(40, 0, 0, 0); team(40, 0, 0, 0); sit(0, 0); sit(1, 0); target(0, 1); target(1, 0); weekends(0) = 1; go(0) = 1; free(0) = 10000");
    }

    private static void firstRow(Edges e) {
        e.says("Terms", "The row of MOVES is the first: at each weekend the least TEAM, then the least FLOOR, with which FEWEST can still be kept.");
        e.row(SWAP, "weekends(1168) = 3; move(1168, 0, 0) = 0; move(1168, 0, 1) = 4; move(1168, 1, 0) = 1; move(1168, 1, 1) = 0",
            "move(1168, 2, 0) = 0; move(1168, 2, 1) = 1; floor(4, 0, 39); move(1168, 0, 1) = 7; floor(7, 0, 39); move(1168, 0, 1) = 10");
        // The least team can not begin, for its floor is not free yet.
        e.row("team(40, 0, 0, 0); team(40, 0, 0, 0); sit(0, 0); sit(1, 1); target(0, 1); target(1, 9); weekends(4) = 2; move(4, 0, 0) = 1",
            "move(4, 0, 1) = 9; move(4, 1, 0) = 0; move(4, 1, 1) = 1");
        // Any order would do: by numbers, whatever the floors are.
        e.row(Edges.each(0, 2, "team(1, 0, 0, 0); sit(#, 3)"), "target(0, 10); target(1, 5); target(2, 0); weekends(0) = 3",
            "move(0, 0, 0) = 0; move(0, 0, 1) = 10; move(0, 1, 0) = 1; move(0, 1, 1) = 5; move(0, 2, 0) = 2; move(0, 2, 1) = 0");
        // Only the smaller one fits on the swing floor, so the greater number begins.
        e.row(SWAP, "size(1, 39); floor(2, 0, 39); weekends(4) = 3; move(4, 0, 0) = 1; move(4, 0, 1) = 2; move(4, 1, 0) = 0; move(4, 2, 0) = 1",
            "move(4, 2, 1) = 0");
        // Team 0 could go to its target over a lower floor, but not in the fewest.
        e.row("team(1, 0, 0, 0); sit(0, 5); target(0, 9); weekends(7) = 1; move(7, 0, 1) = 9");
    }

    private static void promise14(Edges e) {
        e.says("Promise 14", "TARGET of a TEAM (-9: none): what it was (-9).");
        e.row("team(1, 0, 0, 0); target(0, -9) = -9; target(0, 0) = -9; target(0, 10) = 0; target(0, 10) = 10; teamOf(0, 6) = 10",
            "target(0, -9) = 10; target(0, -9) = -9; teamOf(0, 6) = -9; count(5) = 0; fix(0, true); target(0, 3) = -9; count(5) = 1",
            "teamOf(0, 4) = -9");

        e.says("Promise 14", "-1.");
        e.refused(TOLD, -1, "target(4, 0)", "target(-1, 0)", "target(4, -9)", "target(0, 11)", "target(0, -1)", "target(0, -8)",
            "target(0, -10)", "target(4, 11)", "target(0, least)", "target(0, most)", "target(2, 11)");
    }

    private static void promise15(Edges e) {
        e.says("Promise 15", "FEWEST WEEKENDS with SWING FLOORS; -9 there is none.");
        e.row(SWAP, "weekends(0) = -9; weekends(512) = 3; weekends(0) = -9; target(1, -9); weekends(512) = -9; target(0, -9); weekends(512) = 0",
            Edges.each(11, 16, "count(#) = 0"));
        e.changesNothing(TOLD, "weekends(32)");
        e.changesNothing(SWAP, "weekends(0)");
        e.changesNothing(SWAP, "weekends(4)");

        e.says("Promise 15", "-1 other bits; -3 a TEAM with a TARGET is FIXED, or does not sit; -6 more than 6 TEAMS, 5 FLOORS.");
        e.refused(TOLD, -1, "weekends(2048)", "weekends(4096)", "weekends(2049)", "weekends(-1)", "weekends(least)", "weekends(most)");
        String fixed = SEVEN + "fix(6, true)";
        String nowhere = SEVEN + "sit(6, -9)";
        e.refused(fixed, -1, "weekends(2048)", "weekends(-1)", "weekends(4095)");
        e.refused(nowhere, -1, "weekends(2048)", "weekends(-1)", "weekends(4095)");
        e.refused(fixed, -3, "weekends(0)", "weekends(2047)", "weekends(63)");
        e.refused(nowhere, -3, "weekends(0)", "weekends(2047)", "weekends(63)");
        e.refused("team(1, 0, 0, 0); sit(0, 3); target(0, 3); fix(0, true)", -3, "weekends(0)", "weekends(2047)");
        e.refused(SEVEN, -1, "weekends(2048)", "weekends(4095)");
        e.refused(SEVEN, -6, "weekends(0)", "weekends(3)", "weekends(2047)");
        e.refused(SIX, -6, "weekends(60)", "weekends(63)", "weekends(2047)");
        e.refused(SWAP, -6, "weekends(60)");
        e.row(SIX, "weekends(28) = 6; weekends(31) = 6; team(1, 0, 0, 0); fix(6, true); weekends(0) = 6; sit(6, 9) = -3; weekends(0) = 6");
    }

    private static void promise16(Edges e) {
        e.says("Promise 16", "Of MOVE i: 0 the TEAM, 1 the FLOOR; -9 there is none such.");
        e.row(SIX, Edges.each(0, 5, "move(0, #, 0) = #; move(0, #, 1) = 1"), "move(0, 6, 0) = -9; move(0, 6, 1) = -9; move(0, -1, 0) = -9",
            "move(0, -1, 1) = -9; move(0, least, 0) = -9; move(0, most, 1) = -9; move(0, -9, 0) = -9", Edges.each(11, 16, "count(#) = 0"));
        e.row(SWAP, "move(0, 0, 0) = -9; move(0, 0, 1) = -9; move(0, -1, 0) = -9; move(0, -10, 0) = -9; move(4, 2, 1) = 1; move(4, 3, 1) = -9");
        e.row("move(0, 0, 0) = -9; move(0, -1, 1) = -9; move(31, 0, 0) = -9");
        e.changesNothing(SWAP, "move(4, 2, 0)");
        e.changesNothing(SWAP, "move(0, 0, 0)");

        e.says("Promise 16", "Refused as weekends(), then -2.");
        String fixed = SEVEN + "fix(0, true)";
        e.refused(fixed, -1, "move(2048, 0, 0)", "move(-1, 0, 2)", "move(2048, -1, -1)");
        e.refused(fixed, -3, "move(0, 0, 0)", "move(0, 0, 2)", "move(2047, 9, -1)");
        e.refused(SEVEN + "sit(0, -9)", -3, "move(0, 0, 0)", "move(0, 0, 2)");
        e.refused(SEVEN, -6, "move(0, 0, 0)", "move(0, 0, 2)", "move(0, 99, -1)");
        e.refused(SIX, -6, "move(2047, 0, 0)", "move(60, 0, 2)");
        e.refused(SIX, -2, "move(0, 0, 2)", "move(0, 0, -1)", "move(0, 6, 2)", "move(0, -1, 2)", "move(0, 0, least)", "move(0, 0, most)");
        e.refused(SWAP, -2, "move(0, 0, 2)", "move(0, 0, -1)", "move(0, most, 2)");
        e.refused("", -2, "move(0, 0, 2)", "move(0, 0, -1)");
    }

    private static void promise17(Edges e) {
        e.says("Promise 17", "All MOVES are done, no TARGETS are told any more: how many.");
        e.row(SWAP, "team(1, 0, 0, 0); sit(2, 5); target(2, 5); go(4) = 3; teamOf(0, 4) = 1; teamOf(1, 4) = 0; teamOf(2, 4) = 5; count(5) = 0",
            "teamOf(0, 6) = -9; teamOf(1, 6) = -9; teamOf(2, 6) = -9; free(2) = 10040; weekends(0) = 0; move(4, 0, 0) = -9");
        e.row(SIX, "go(0) = 6; count(5) = 0; free(1) = 10034; free(0) = 10040; count(1) = 6");
        // No move is needed: none is done, and the targets are told no more.
        e.row("go(0) = 0; go(31) = 0; team(1, 0, 0, 0); go(0) = 0; sit(0, 3); target(0, 3); go(0) = 0; teamOf(0, 6) = -9; teamOf(0, 4) = 3",
            Edges.each(11, 16, "count(#) = 0"));

        e.says("Promise 17", "Refused as weekends(), then -3 there are none.");
        e.refused(SEVEN + "fix(0, true)", -1, "go(2048)", "go(-1)", "go(least)", "go(most)");
        e.refused(SEVEN + "fix(0, true)", -3, "go(0)", "go(2047)");
        e.refused(SEVEN + "sit(0, -9)", -3, "go(0)", "go(2047)");
        e.refused(SEVEN, -6, "go(0)", "go(2047)");
        e.refused(SWAP, -3, "go(0)", "go(3)");
        e.refused(SWAP, -6, "go(60)");
        e.refused(SWAP, -1, "go(2048)");
        e.refused("team(41, 0, 0, 0); sit(0, 3); target(0, 4)", -3, "go(0)", "go(7)", "go(15)");
        e.refused("team(41, 0, 0, 0); sit(0, 3); target(0, 4)", -6, "go(47)");
    }
}
