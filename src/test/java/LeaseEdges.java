/** Boundary cases of growth, leases, bills and turns at the windows. */
final class LeaseEdges {
    private static final String TOLD = Edges.TOLD;
    private static final String TEAM = "team(1, 0, 0, 0);";
    /** Behind quarter 0 no floor is held, but for those that are told one by one. */
    private static final String NONE_HELD = Edges.each(0, 10, "floor(#, 3, 0)");

    private LeaseEdges() {
    }

    static void run(Edges e) {
        growth(e);
        missing(e);
        leases(e);
        keptSeats(e);
        keptPrice(e);
        billOfAFloor(e);
        windows(e);
        promise22(e);
        promise23(e);
        promise24(e);
        promise25(e);
        promise26(e);
    }

    private static String held(int f, int seats, int price) {
        return "floor(" + f + ", 0, " + seats + "); floor(" + f + ", 2, " + price + "); floor(" + f + ", 3, 1);";
    }

    private static void growth(Edges e) {
        e.says("Terms", "==== IV. GROWTH: SIZES of TEAMS by QUARTERS 0 .. 19 (0 .. 200, or missing: -1, at first):");
        e.row(TEAM, Edges.each(0, 19, "sizeIn(0, #) = 1"), "grow(0, 0, 200) = 1; sizeIn(0, 0) = 200; sizeIn(0, 19) = 200; grow(0, 19, 0) = 1",
            "sizeIn(0, 18) = 200; sizeIn(0, 19) = 0; grow(0, 19, -1) = 1; sizeIn(0, 19) = 200; grow(0, 0, -1) = 1; sizeIn(0, 0) = 1");
        e.refused(TOLD, -4, "grow(0, 0, -2)", "grow(0, 19, -2)", "grow(0, 0, -9)", "grow(0, 0, least)");
        e.refused(TOLD, -6, "grow(0, 0, 201)", "grow(0, 19, 201)", "grow(0, 0, most)");
        e.refused(TOLD, -1, "grow(0, 20, 0)", "grow(0, -1, 0)", "sizeIn(0, 20)", "sizeIn(0, -1)", "kept(20, 0)", "kept(-1, 0)");
    }

    private static void missing(Edges e) {
        e.says("Terms", "a missing one counts as that of the QUARTER ahead, of QUARTER 0 as SIZE now.");
        e.row("team(7, 0, 0, 0); grow(0, 1, 50); sizeIn(0, 0) = 7; sizeIn(0, 1) = 50; sizeIn(0, 19) = 50; grow(0, 18, 0); sizeIn(0, 17) = 50",
            "sizeIn(0, 18) = 0; sizeIn(0, 19) = 0; size(0, 60); sizeIn(0, 0) = 60; sizeIn(0, 1) = 50; grow(0, 0, 3); sizeIn(0, 0) = 3; size(0, 9)",
            "sizeIn(0, 0) = 3; grow(0, 1, -1); sizeIn(0, 1) = 3; sizeIn(0, 17) = 3; grow(0, 0, -1); sizeIn(0, 17) = 9; sizeIn(0, 19) = 0");
    }

    private static void leases(Edges e) {
        e.says("Terms", "LEASES: a FLOOR is held from QUARTER 0 till one (0 .. 19; 19 at first).");
        for (int last = 0; last <= 19; last++) {
            // The team grows beyond ten floors, so that the eleventh is kept just as long as it is held.
            String all = Edges.each(0, 7, "team(50, 0, 0, 0)") + "team(40, 0, 0, 0);";
            Plans plans = e.row(all, "floor(10, 3, " + last + ") = 19; kept(0, 0) = 2047; kept(" + last + ", 0) = 2047");
            if (last < 19) {
                e.is(plans, "kept(" + (last + 1) + ", 0)", -9);
                e.is(plans, "kept(19, 1)", -9);
            }
        }
        e.refused(TOLD, -4, "floor(4, 3, -1)", "floor(4, 3, least)");
        e.refused(TOLD, -6, "floor(4, 3, 20)", "floor(4, 3, most)");
    }

    private static void keptSeats(Edges e) {
        e.says("Terms", "KEPT in a QUARTER: of FLOORS held in it, the set whose SEATS together are all SIZES or more,");
        e.row("kept(0, 0) = 0; kept(0, 1) = 0; team(40, 0, 0, 0); kept(0, 0) = 1; team(1, 0, 0, 0); kept(0, 0) = 3; grow(1, 5, 0); kept(4, 0) = 3",
            "kept(5, 0) = 1; grow(0, 6, 0); kept(6, 0) = 0; kept(6, 1) = 0; grow(0, 7, 200); kept(7, 0) = 31; grow(1, 8, 1); kept(8, 0) = 63");
        // All teams count, also those that sit nowhere; where they sit counts not.
        e.row("team(20, 0, 0, 0); team(21, 0, 0, 0); sit(0, 10); kept(0, 0) = 3; fix(0, true); kept(0, 0) = 3; size(1, 20); kept(0, 0) = 1");
        String greatest = Edges.each(0, 10, "floor(#, 0, 300); floor(#, 2, 999)") + Edges.each(0, 15, "team(1, 0, 0, 0); grow(#, 0, 200)");
        e.row(greatest, "kept(0, 0) = 2047; kept(0, 1) = 3296700; grow(15, 1, 0); kept(1, 0) = 1023; kept(1, 1) = 2997000; grow(15, 2, 1)",
            "kept(2, 0) = 2047; floor(10, 0, 0); kept(2, 0) = -9; kept(1, 0) = 1023");
    }

    private static void keptPrice(Edges e) {
        e.says("Terms", "with the least PRICE (SEATS times PRICE of each FLOOR, all its SEATS), of these the fewest FLOORS, then the least bits; "
            + "-9 there is none.");
        // Least price, though it takes more floors and more seats than needed.
        e.row(NONE_HELD, held(0, 60, 10), held(9, 30, 9), held(10, 31, 10), "team(60, 0, 0, 0); kept(1, 0) = 1536; kept(1, 1) = 580",
            "floor(9, 2, 10); kept(1, 0) = 1; kept(1, 1) = 600; floor(0, 2, 11); kept(1, 0) = 1536; kept(1, 1) = 610");
        // Of one price the fewest floors, whatever their bits.
        e.row(NONE_HELD, held(0, 30, 10), held(1, 30, 10), held(10, 60, 10), "team(60, 0, 0, 0); kept(1, 0) = 1024; kept(1, 1) = 600",
            "floor(10, 2, 11); kept(1, 0) = 3");
        // Of as many the least bits.
        e.row(NONE_HELD, held(0, 20, 10), held(1, 30, 10), held(2, 30, 10), held(3, 40, 10), "team(60, 0, 0, 0); kept(1, 0) = 6; kept(1, 1) = 600",
            "floor(2, 0, 29); kept(1, 0) = 9; floor(0, 0, 19); kept(1, 0) = 12; kept(1, 1) = 690");
        // Gifts, and floors without seats, are not kept when they are not needed.
        e.row(NONE_HELD, held(0, 0, 0), held(1, 0, 999), held(2, 60, 0), held(3, 60, 0), "team(60, 0, 0, 0); kept(1, 0) = 4; kept(1, 1) = 0",
            "grow(0, 1, 61); kept(1, 0) = 12; grow(0, 1, 120); kept(1, 0) = 12; grow(0, 1, 121); kept(1, 0) = -9; kept(1, 1) = -9; grow(0, 1, 0)",
            "kept(1, 0) = 0; kept(1, 1) = 0");
        // No floor is held: there is none but for nobody.
        e.row(NONE_HELD, TEAM, "kept(0, 0) = 1; kept(1, 0) = -9; kept(1, 1) = -9; grow(0, 1, 0); kept(1, 0) = 0; kept(1, 1) = 0",
            Edges.each(11, 16, "count(#) = 0"));
    }

    private static void billOfAFloor(Edges e) {
        e.says("Terms", "BILL of a FLOOR: SEATS times PRICE, parted among TEAMS on it by SIZE: each SIZE by all SIZES, cut; coins that are left over "
            + "go one each to those with the greatest rests, of one rest by numbers.");
        // 5 coins by 6: 0 rest 5, 1 rest 4, 2 rest 3; two are left, for the first and the second.
        e.row("team(1, 0, 0, 0); team(2, 0, 0, 0); team(3, 0, 0, 0); sit(0, 10); sit(1, 10); sit(2, 10); floor(10, 0, 5); floor(10, 2, 1)",
            "bill(0) = 1; bill(1) = 2; bill(2) = 2");
        // 1 coin by 6: rests 1, 2 and 3; it goes to the last.
        e.row("team(1, 0, 0, 0); team(2, 0, 0, 0); team(3, 0, 0, 0); sit(0, 0); sit(1, 0); sit(2, 0); floor(0, 0, 1); floor(0, 2, 1)",
            "bill(0) = 0; bill(1) = 0; bill(2) = 1; floor(0, 0, 6); bill(0) = 1; bill(1) = 2; bill(2) = 3; floor(0, 0, 0); bill(2) = 0");
        // Sixteen of one size and four coins left over: by numbers, one each.
        e.row(Edges.each(0, 15, "team(60, 0, 0, 0); sit(#, 3)"), "floor(3, 0, 300); floor(3, 2, 999)", Edges.each(0, 3, "bill(#) = 18732"),
            Edges.each(4, 15, "bill(#) = 18731"), "floor(3, 0, 1); floor(3, 2, 15)", Edges.each(0, 14, "bill(#) = 1"), "bill(15) = 0");
        // Only who sits on it pays, by the size now.
        e.row("team(1, 0, 0, 0); team(1, 0, 0, 0); team(1, 0, 0, 0); sit(0, 0); sit(1, 1); bill(0) = 400; bill(1) = 400; bill(2) = 0; sit(1, 0)",
            "bill(0) = 200; grow(0, 0, 200); bill(0) = 200; size(0, 3); bill(0) = 300; bill(1) = 100");
    }

    private static void windows(Edges e) {
        e.says("Terms", "WINDOWS: a TURN of a FLOOR with sun: to the TEAM on it that had the fewest TURNS so far by SIZE (TURNS by SIZE as fractions), "
            + "of several the least; it has one more.");
        // It goes round by turns.
        e.row(Edges.each(0, 15, "team(9, 0, 0, 0); sit(#, 10)"), "floor(10, 1, 2)", Edges.each(0, 15, "turn(10) = #"), Edges.each(0, 15, "turn(10) = #"),
            "turn(10) = 0; teamOf(0, 8) = 3; teamOf(1, 8) = 2; teamOf(15, 8) = 2");
        // 0/3 0/1, 1/3 0/1, 1/3 1/1, 2/3 1/1, 3/3 1/1 and round again; whole numbers of turns by size would not do.
        e.row("team(3, 0, 0, 0); team(1, 0, 0, 0); sit(0, 0); sit(1, 0); floor(0, 1, 7); turn(0) = 0; turn(0) = 1; turn(0) = 0; turn(0) = 0",
            "turn(0) = 0; turn(0) = 1; teamOf(0, 8) = 4; teamOf(1, 8) = 2");
        // 59/60 is less than 59/59 and more than 58/59.
        e.row("team(60, 0, 0, 0); team(59, 0, 0, 0); sit(0, 0); sit(1, 1); floor(0, 1, 2); floor(1, 1, 2)", Edges.each(1, 59, "turn(0) = 0"),
            Edges.each(1, 58, "turn(1) = 1"), "sit(1, 0); turn(0) = 1; turn(0) = 0; turn(0) = 0; turn(0) = 1");
        // What it had on another floor counts, and the size is that of now.
        e.row(TEAM, TEAM, "floor(0, 1, 2); floor(1, 1, 2); sit(0, 0); turn(0) = 0; turn(0) = 0; sit(0, 1); sit(1, 1); turn(1) = 1; turn(1) = 1",
            "turn(1) = 0; size(1, 60); turn(1) = 1; sit(1, -9); turn(1) = 0; turn(1) = 0");
    }

    private static void promise22(Edges e) {
        e.says("Promise 22", "SIZE of a TEAM in a QUARTER (-1: missing): 1.");
        e.row(TEAM, "grow(0, 0, 0) = 1; grow(0, 0, 0) = 1; grow(0, 0, -1) = 1; grow(0, 0, -1) = 1; grow(0, 19, 200) = 1; grow(0, 19, 1) = 1",
            "teamOf(0, 0) = 1; sizeIn(0, 18) = 1; sizeIn(0, 19) = 1");

        e.says("Promise 22", "-1; -4; -6.");
        e.refused(TOLD, -1, "grow(4, 0, 0)", "grow(-1, 0, 0)", "grow(0, 20, 0)", "grow(0, -1, 0)", "grow(0, least, 0)", "grow(0, most, 0)",
            "grow(4, 0, -2)", "grow(4, 0, 201)", "grow(0, 20, -2)", "grow(0, -1, 201)");
        e.refused(TOLD, -4, "grow(0, 3, -2)", "grow(3, 19, -2)");
        e.refused(TOLD, -6, "grow(0, 3, 201)", "grow(3, 19, 201)");
    }

    private static void promise23(Edges e) {
        e.says("Promise 23", "What counts of it.");
        e.row(TEAM, "team(60, 0, 0, 0); sizeIn(0, 0) = 1; sizeIn(1, 19) = 60; grow(1, 19, 0); sizeIn(1, 19) = 0; sizeIn(0, 19) = 1");
        e.changesNothing(TOLD, "sizeIn(0, 19)");

        e.says("Promise 23", "-1.");
        e.refused(TOLD, -1, "sizeIn(4, 0)", "sizeIn(-1, 0)", "sizeIn(0, 20)", "sizeIn(0, -1)", "sizeIn(4, 20)", "sizeIn(0, least)", "sizeIn(0, most)");
    }

    private static void promise24(Edges e) {
        e.says("Promise 24", "KEPT in a QUARTER: the set (what 0), its PRICE (1); -9.");
        e.row("team(60, 0, 0, 0); floor(10, 0, 60); floor(10, 2, 0); kept(0, 0) = 1024; kept(0, 1) = 0; kept(19, 0) = 1024; floor(10, 3, 18)",
            "kept(18, 0) = 1024; kept(19, 0) = 3; kept(19, 1) = 800", Edges.each(0, 9, "floor(#, 3, 18)"), "kept(19, 0) = -9; kept(19, 1) = -9");
        e.changesNothing(TOLD, "kept(3, 0)");

        e.says("Promise 24", "-1; -2.");
        e.refused(TOLD, -1, "kept(20, 0)", "kept(-1, 0)", "kept(20, 2)", "kept(-1, -1)", "kept(least, 0)", "kept(most, 0)");
        e.refused(TOLD, -2, "kept(0, 2)", "kept(0, -1)", "kept(19, least)", "kept(19, most)");
        e.refused(NONE_HELD + TEAM, -2, "kept(1, 2)", "kept(1, -1)");
    }

    private static void promise25(Edges e) {
        e.says("Promise 25", "What a TEAM pays of its FLOOR's BILL (0 if it does not sit).");
        e.row(TEAM, "bill(0) = 0; sit(0, 10); bill(0) = 400; floor(10, 0, 300); floor(10, 2, 999); bill(0) = 299700; floor(10, 2, 0); bill(0) = 0",
            "floor(10, 2, 1); bill(0) = 300; floor(10, 0, 0); bill(0) = 0; sit(0, 9); bill(0) = 400; sit(0, -9); bill(0) = 0");
        e.changesNothing(TOLD, "bill(0)");

        e.says("Promise 25", "-1.");
        e.refused(TOLD, -1, "bill(4)", "bill(-1)", "bill(-9)", "bill(least)", "bill(most)");
    }

    private static void promise26(Edges e) {
        e.says("Promise 26", "A TURN of WINDOWS on a FLOOR: the TEAM.");
        e.row(TEAM, TEAM, "floor(10, 1, 2); sit(1, 10); turn(10) = 1; turn(10) = 1; teamOf(1, 8) = 2; teamOf(0, 8) = 0; sit(0, 10); turn(10) = 0",
            "fix(0, true); floor(10, 0, 0); turn(10) = 0; turn(10) = 0");

        e.says("Promise 26", "-1; -3 no sun, or nobody sits there.");
        e.refused(TOLD, -1, "turn(11)", "turn(-1)", "turn(-9)", "turn(least)", "turn(most)");
        e.refused(TOLD, -3, "turn(1)", "turn(0)", "turn(10)");
        e.refused(TOLD + "; floor(10, 1, 2); floor(1, 1, 5)", -3, "turn(10)", "turn(1)");
        e.refused(TEAM + "floor(0, 1, 2)", -3, "turn(0)");
    }
}
