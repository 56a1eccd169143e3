/** Boundary cases of what is told of floors, teams and twos, and of what is read of it. */
final class TellingEdges {
    private static final String TOLD = Edges.TOLD;
    private static final String FULL = Edges.each(0, 15, "team(1, 0, 0, 9)");

    private TellingEdges() {
    }

    static void run(Edges e) {
        whatItIs(e);
        floorsAndTheirBounds(e);
        teamsAndTheirBounds(e);
        refusals(e);
        promise1(e);
        promise2(e);
        promise3(e);
        promise4(e);
        promise5(e);
        promise6(e);
        promise7(e);
        promise9(e);
        promise27(e);
        promise28(e);
        promise29(e);
    }

    private static String team(int size, int needs, int loud, int noise) {
        return "team(" + size + ", " + needs + ", " + loud + ", " + noise + ")";
    }

    private static void whatItIs(Edges e) {
        e.says("What it is", "Floors moved round: teams on floors by who must sit by whom, who never, labs that can't move, "
            + "quiet and loud; the seating that walks least with the fewest moved; weekends of moves, one team each, none "
            + "ever without desks; desks shared by days at home and by chance; growth foretold by quarters, floors whose "
            + "leases are kept at least price; prices parted to the coin, and windows that go round by turns. ==== I.");
        // Each half of it is a promise of its own; here that one house can hold all of it.
        e.changesNothing(TOLD, "walked()");

        e.says("What it is", "An object is used for at most 512 calls after it has been made; what later calls answer is free.");
        Plans turns = e.row("team(60, 0, 0, 0); team(59, 0, 0, 0); sit(0, 10); sit(1, 10); floor(10, 1, 2)");
        // Behind 119 turns both are even again, so the row of turns begins anew four times.
        int[] had = {0, 0};
        for (int i = 0; i < 505; i++) {
            int next = had[0] * 59 <= had[1] * 60 ? 0 : 1;
            had[next]++;
            e.is(turns, "turn(10)", next);
        }
        e.is(turns, "teamOf(0, 8)", had[0]);
        e.is(turns, "teamOf(1, 8)", had[1]);
        Plans wrong = e.row(Edges.each(1, 511, "free(11) = -1"));
        e.is(wrong, "count(11)", 511);
        Plans last = e.row(Edges.each(1, 510, "lift(9)"), "team(1, 0, 0, 0) = 0");
        e.is(last, "sit(0, 0)", -9);
    }

    private static void floorsAndTheirBounds(Edges e) {
        e.says("Terms", "FLOORS 0 .. 10, each with");
        for (int f = 0; f <= 10; f++) {
            e.row("floor(" + f + ", 0, " + (50 + f) + ") = 40; free(" + f + ") = " + (10050 + f));
        }
        e.row("team(1, 0, 0, 0); sit(0, 0) = -9; sit(0, 10) = 0; target(0, 0) = -9; target(0, 10) = 0; best(1, 1, 0) = 0",
            "best(1024, 1, 0) = 0; weekends(1024) = 0; weekends(1) = 0; floor(0, 1, 2); floor(10, 1, 2); turn(10) = 0",
            "turn(0) = -3; sit(0, 0) = 10; turn(0) = 0");
        e.refused(TOLD, -1, "floor(-1, 0, 1)", "floor(11, 0, 1)", "sit(0, -1)", "sit(0, 11)", "target(0, -1)",
            "target(0, 11)", "turn(-1)", "turn(11)", "free(-1)", "free(11)", "best(2048, 1, 0)", "bestOf(2048, 1, 0)",
            "seat(2048, 1)", "weekends(2048)", "move(2048, 0, 0)", "go(2048)");

        e.says("Terms", "SEATS (0 .. 300; 40 at first)");
        e.row(Edges.each(0, 10, "free(#) = 10040; floor(#, 0, 0) = 40; free(#) = 10000; floor(#, 0, 300) = 0; free(#) = 10300"));
        e.refused(TOLD, -4, "floor(1, 0, -1)", "floor(0, 0, least)");
        e.refused(TOLD, -6, "floor(1, 0, 301)", "floor(10, 0, most)");

        e.says("Terms", "KINDS (bits: 1 water, 2 sun, 4 strong; 0 at first)");
        e.row(Edges.each(0, 10, "floor(#, 1, 7) = 0; floor(#, 1, 0) = 7; floor(#, 1, 7) = 0"));
        for (int kinds = 0; kinds <= 7; kinds++) {
            e.row("team(1, 0, 0, 0); sit(0, 4); floor(4, 1, " + kinds + ") = 0; turn(4) = " + ((kinds & 2) == 2 ? 0 : -3));
        }
        e.refused(TOLD, -4, "floor(2, 1, -1)", "floor(2, 1, least)");
        e.refused(TOLD, -6, "floor(2, 1, 8)", "floor(2, 1, most)");

        e.says("Terms", "a PRICE a seat (0 .. 999; 10 at first)");
        e.row(Edges.each(0, 10, "floor(#, 2, 999) = 10; floor(#, 2, 0) = 999; floor(#, 2, 999) = 0"));
        e.row("team(1, 0, 0, 0); sit(0, 10); bill(0) = 400; floor(10, 2, 999); bill(0) = 39960; floor(10, 2, 0); bill(0) = 0");
        e.refused(TOLD, -4, "floor(3, 2, -1)", "floor(3, 2, least)");
        e.refused(TOLD, -6, "floor(3, 2, 1000)", "floor(3, 2, most)");
    }

    private static void teamsAndTheirBounds(Edges e) {
        e.says("Terms", "TEAMS have numbers from 0 on (16 at most):");
        e.row(Edges.each(0, 15, "count(0) = #; team(1, 0, 0, 0) = #"),
            "count(0) = 16; team(1, 0, 0, 0) = -6; count(0) = 16; teamOf(15, 0) = 1; size(15, 2) = 1; sit(15, 3) = -9",
            "fix(15, true) = 1; fix(15, false) = 1; two(15, 14, 0, 9) = 0; two(0, 15, 1, 1) = 0; best(8, 32768, 0) = 0",
            "bestOf(8, 32768, 15) = 3; seat(16, 32768) = 1; target(15, 4) = -9; weekends(0) = 0; person(15, 0, 64) = 0",
            "desks(15) = 1; lack(15, 0, 4) = 1073741824; least(15, 0) = 1; grow(15, 0, 7) = 1; sizeIn(15, 0) = 7; bill(15) = 400");
        String[] ofTeam = {"size(#, 1)", "sit(#, 0)", "sit(#, -9)", "fix(#, true)", "fix(#, false)", "two(#, 0, 0, 1)",
            "two(0, #, 0, 1)", "bestOf(1, 1, #)", "target(#, 0)", "target(#, -9)", "person(#, 0, 0)", "desks(#)",
            "lack(#, 0, 0)", "least(#, 0)", "grow(#, 0, 0)", "sizeIn(#, 0)", "bill(#)", "teamOf(#, 0)"};
        for (String call : ofTeam) {
            e.refused(TOLD, -1, call.replace("#", "-1"), call.replace("#", "4"));
            e.refused(FULL, -1, call.replace("#", "16"));
            e.refused("", -1, call.replace("#", "0"));
            e.refused("", -1, call.replace("#", "least"), call.replace("#", "most"), call.replace("#", "-9"));
        }
        e.refused(TOLD, -1, "best(1, 16, 0)", "bestOf(1, 16, 4)", "seat(1, 16)");
        e.refused(FULL, -1, "best(1, 65536, 0)", "bestOf(1, 65536, 16)", "seat(1, 65536)");

        e.says("Terms", "a SIZE (1 .. 60)");
        e.row("team(1, 0, 0, 0) = 0; team(60, 0, 0, 0) = 1; teamOf(0, 0) = 1; teamOf(1, 0) = 60; size(0, 60) = 1; size(1, 1) = 60");
        e.refused(TOLD, -4, "team(0, 0, 0, 0)", "team(-1, 0, 0, 0)", "team(least, 0, 0, 0)", "size(0, 0)", "size(0, least)");
        e.refused(TOLD, -6, "team(61, 0, 0, 0)", "team(most, 0, 0, 0)", "size(0, 61)", "size(0, most)");

        e.says("Terms", "NEEDS (bits of KINDS)");
        e.row(Edges.each(0, 7, "team(1, #, 0, 0) = #; teamOf(#, 1) = #"));
        e.refused(TOLD, -4, "team(1, -1, 0, 0)", "team(1, least, 0, 0)");
        e.refused(TOLD, -6, "team(1, 8, 0, 0)", "team(1, most, 0, 0)");

        e.says("Terms", "are LOUD (0 .. 9: how loud) and bear NOISE (0 .. 9)");
        e.row("team(1, 0, 0, 9) = 0; team(1, 0, 9, 0) = 1; teamOf(0, 2) = 0; teamOf(0, 3) = 9; teamOf(1, 2) = 9; teamOf(1, 3) = 0");
        e.refused(TOLD, -4, "team(1, 0, -1, 0)", "team(1, 0, 0, -1)", "team(1, 0, least, 0)", "team(1, 0, 0, least)");
        e.refused(TOLD, -6, "team(1, 0, 10, 0)", "team(1, 0, 0, 10)", "team(1, 0, most, 0)", "team(1, 0, 0, most)");

        e.says("Terms", "and sit on a FLOOR, or on none (-9)");
        e.row("team(1, 0, 0, 0); teamOf(0, 4) = -9; sit(0, -9) = -9; sit(0, 0) = -9; teamOf(0, 4) = 0; sit(0, -9) = 0",
            "teamOf(0, 4) = -9; free(0) = 10040; count(1) = 0");
        e.refused(TOLD, -1, "sit(0, -8)", "sit(0, -10)", "sit(0, least)", "target(0, -8)", "target(0, -10)");

        e.says("Terms", "FIXED ones can't move.");
        String fixed = "team(1, 0, 0, 0); team(1, 0, 0, 0); sit(0, 3); sit(1, 3); fix(0, true); target(0, 4)";
        e.refused(fixed, -3, "sit(0, 4)", "sit(0, 3)", "sit(0, -9)", "best(16, 1, 0)", "bestOf(16, 1, 0)", "seat(16, 1)",
            "best(24, 3, 0)", "bestOf(24, 3, 1)", "seat(24, 3)", "weekends(0)", "move(0, 0, 0)", "go(0)");
        e.row(fixed, "seat(16, 2) = 1; teamOf(0, 4) = 3; teamOf(1, 4) = 4; fix(0, false) = 1; sit(0, 5) = 3");
    }

    private static void refusals(Edges e) {
        e.says("Terms", "REFUSALS (the call answers the number, the first that fits in the order in which it tells them; "
            + "nothing changes but how many there were):");
        e.refused(TOLD, -1, "floor(11, 4, -1)", "two(0, 0, 3, 100)", "lack(0, 21, 5)", "kept(20, 2)", "teamOf(4, 9)");
        e.refused(TOLD, -2, "floor(0, 4, 301)", "two(0, 1, 3, -1)", "best(31, 4, 2)");
        e.refused(TOLD, -3, "seat(31, 4)", "sit(2, 0)");
        e.refused(TOLD, -4, "team(0, 8, 0, 0)", "person(0, -1, 65)");
        e.row(TOLD, Edges.each(1, 7, "free(11)"), Edges.each(1, 6, "teamOf(0, 9)"), Edges.each(1, 5, "turn(0)"),
            Edges.each(1, 4, "lift(0)"), Edges.each(1, 3, "lift(10)"),
            "count(11) = 7; count(12) = 6; count(13) = 5; count(14) = 4; count(15) = 0; count(16) = 3");

        e.says("Terms", "-1 NOBODY: no such FLOOR, TEAM, PERSON, QUARTER, weekday.");
        e.refused(TOLD, -1, "free(11)", "bill(4)", "sizeIn(0, -1)", "sizeIn(0, 20)", "lack(0, 0, -1)", "lack(0, 0, 5)");

        e.says("Terms", "-2 OTHER: what.");
        e.refused(TOLD, -2, "floor(0, -1, 0)", "floor(0, 4, 0)", "two(0, 1, -1, 0)", "two(0, 1, 3, 0)", "best(1, 1, -1)",
            "best(1, 1, 2)", "move(0, 0, -1)", "move(0, 0, 2)", "kept(0, -1)", "kept(0, 2)", "teamOf(0, -1)", "teamOf(0, 9)");

        e.says("Terms", "-3 STATE: it is not as it must be.");
        e.refused(TOLD, -3, "sit(2, 0)", "best(1, 4, 0)", "seat(1, 2)", "turn(1)");
        e.refused("team(41, 0, 0, 0); sit(0, 0); target(0, 1)", -3, "go(0)", "seat(2, 1)");

        e.says("Terms", "-4 BELOW: a number below the least.");
        e.refused(TOLD, -4, "floor(0, 3, -1)", "team(0, 0, 0, 0)", "size(0, 0)", "two(0, 1, 0, -1)", "lift(0)",
            "person(0, 0, -1)", "lack(0, -1, 0)", "least(0, -1)", "grow(0, 0, -2)");

        e.says("Terms", "-6 ROOM: a number above the greatest, no room.");
        e.refused(TOLD, -6, "floor(0, 3, 20)", "team(61, 0, 0, 0)", "size(0, 61)", "two(0, 1, 0, 100)", "lift(10)",
            "best(31, 1, 0)", "weekends(127)", "person(0, 0, 65)", "lack(0, 21, 0)", "least(0, 1001)", "grow(0, 0, 201)");
        e.refused(FULL, -6, "team(1, 0, 0, 0)");
    }

    private static void promise1(Edges e) {
        e.says("Promise 1", "No TEAMS.");
        e.row(Edges.each(0, 6, "count(#) = 0"), Edges.each(11, 16, "count(#) = 0"), Edges.each(0, 10, "free(#) = 10040"),
            "fit() = 1; walked() = 0; kept(0, 0) = 0; kept(19, 1) = 0; weekends(0) = 0; move(0, 0, 0) = -9; lift(1) = 1",
            "best(1, 1, 0) = -1; best(1, 0, 0) = -1; turn(0) = -3; teamOf(0, 0) = -1; team(1, 0, 0, 0) = 0");
        Plans told = e.row(TOLD);
        e.row("count(0) = 0; free(1) = 10040; floor(2, 1, 0) = 0; floor(3, 2, 0) = 10; floor(4, 3, 0) = 19; lift(1) = 1");
        e.is(told, "count(0)", 4);
    }

    private static void promise2(Edges e) {
        e.says("Promise 2", "Of a FLOOR what 0 SEATS, 1 KINDS (0 .. 7), 2 PRICE, 3 the last QUARTER of its LEASE becomes v: what it was.");
        e.row("floor(10, 0, 300) = 40; floor(10, 1, 7) = 0; floor(10, 2, 999) = 10; floor(10, 3, 0) = 19",
            "floor(10, 0, 0) = 300; floor(10, 1, 0) = 7; floor(10, 2, 0) = 999; floor(10, 3, 19) = 0",
            "floor(9, 0, 40) = 40; floor(9, 1, 0) = 0; floor(9, 2, 10) = 10; floor(9, 3, 19) = 19");
        e.row("floor(0, 0, 7) = 40; floor(0, 0, 7) = 7; floor(0, 0, 7) = 7");

        e.says("Promise 2", "-1; -2; -4; -6.");
        e.refused(TOLD, -1, "floor(11, 0, 0)", "floor(11, 4, 0)", "floor(-1, -1, 0)", "floor(11, 0, -1)", "floor(11, 0, 301)",
            "floor(-9, 0, 0)", "floor(least, 4, -1)", "floor(most, -1, most)");
        e.refused(TOLD, -2, "floor(4, 4, 0)", "floor(4, -1, 0)", "floor(4, 4, -1)", "floor(4, -1, 1000)", "floor(4, least, 0)",
            "floor(4, most, 0)");
        e.refused(TOLD, -4, "floor(4, 0, -1)", "floor(4, 1, -1)", "floor(4, 2, -1)", "floor(4, 3, -1)");
        e.refused(TOLD, -6, "floor(4, 0, 301)", "floor(4, 1, 8)", "floor(4, 2, 1000)", "floor(4, 3, 20)");

        e.says("Promise 2", "(Who sits there stays, whatever SEATS are.)");
        e.row("team(60, 0, 0, 9); team(60, 0, 0, 9); sit(0, 5); sit(1, 5); floor(5, 0, 0) = 40; teamOf(0, 4) = 5",
            "teamOf(1, 4) = 5; count(1) = 2; free(5) = 9880; fit() = 0; floor(5, 0, 120) = 0; fit() = 1; free(5) = 10000");
    }

    private static void promise3(Edges e) {
        e.says("Promise 3", "A TEAM, on no FLOOR: its number.");
        e.row("team(60, 7, 9, 0) = 0; teamOf(0, 4) = -9; count(1) = 0; team(1, 0, 0, 9) = 1; teamOf(1, 4) = -9; count(0) = 2",
            Edges.each(0, 10, "free(#) = 10040"), "fit() = 1");

        e.says("Promise 3", "-4; -6 (16, too).");
        String[] below = {"0", "-1", "-1", "-1"};
        String[] above = {"61", "8", "10", "10"};
        for (int i = 0; i < 4; i++) {
            for (int j = 0; j < 4; j++) {
                String[] words = {"1", "0", "0", "0"};
                words[j] = above[j];
                e.refused(TOLD, -6, "team(" + String.join(", ", words) + ")");
                words[i] = below[i];
                e.refused(TOLD, -4, "team(" + String.join(", ", words) + ")");
            }
        }
        e.refused(Edges.each(0, 14, "team(1, 0, 0, 0)"), -4, team(0, 0, 0, 0));
        e.refused(FULL, -6, team(1, 0, 0, 0), team(60, 7, 9, 9), team(61, 0, 0, 0));
        e.refused(FULL, -4, team(0, 0, 0, 0), team(1, 0, 0, -1));
        e.row(Edges.each(0, 14, "team(1, 0, 0, 0)"), "team(61, 0, 0, 0) = -6; team(60, 7, 9, 9) = 15; team(1, 0, 0, 0) = -6");
    }

    private static void promise4(Edges e) {
        e.says("Promise 4", "SIZE of a TEAM: what it was.");
        e.row("team(5, 0, 0, 0); team(6, 0, 0, 0); size(1, 1) = 6; size(1, 60) = 1; size(1, 60) = 60; size(0, 5) = 5",
            "sit(1, 0); fix(1, true); size(1, 41) = 60; teamOf(1, 0) = 41; teamOf(1, 4) = 0; free(0) = 9999; fit() = 0");

        e.says("Promise 4", "-1; -4; -6.");
        e.refused(TOLD, -1, "size(4, 1)", "size(-1, 1)", "size(4, 0)", "size(4, 61)", "size(-1, least)", "size(-1, most)");
        e.refused(TOLD, -4, "size(3, 0)", "size(3, -1)", "size(3, least)");
        e.refused(TOLD, -6, "size(3, 61)", "size(3, most)");
    }

    private static void promise5(Edges e) {
        e.says("Promise 5", "A TEAM sits on a FLOOR (-9: none) from now on (nothing else is asked): on which it did (-9).");
        e.row("team(60, 7, 9, 0); team(60, 7, 9, 0); two(0, 1, 1, 1); floor(10, 0, 0); sit(0, 10) = -9; sit(1, 10) = -9",
            "teamOf(1, 4) = 10; fit() = 0; sit(1, 0) = 10; sit(1, 0) = 0; sit(1, -9) = 0; sit(1, -9) = -9; teamOf(1, 4) = -9",
            "two(0, 1, 2, 1); sit(1, 0) = -9; teamOf(0, 4) = 10");

        e.says("Promise 5", "-1; -3 it is FIXED.");
        e.refused(TOLD, -1, "sit(4, 0)", "sit(-1, 0)", "sit(4, 11)", "sit(0, 11)", "sit(0, -1)", "sit(2, 11)", "sit(2, -1)",
            "sit(2, most)", "sit(2, least)");
        e.refused(TOLD, -3, "sit(2, 3)", "sit(2, 0)", "sit(2, 10)", "sit(2, -9)");
        e.refused("team(1, 0, 0, 0); fix(0, true)", -3, "sit(0, 0)", "sit(0, -9)");
    }

    private static void promise6(Edges e) {
        e.says("Promise 6", "A TEAM is FIXED, or not: 1; 0 if it was so.");
        e.row("team(1, 0, 0, 0); team(1, 0, 0, 0); fix(0, false) = 0; teamOf(0, 5) = 0; fix(0, true) = 1; teamOf(0, 5) = 1",
            "fix(0, true) = 0; teamOf(0, 5) = 1; count(2) = 1; teamOf(1, 5) = 0; fix(0, false) = 1; fix(0, false) = 0; count(2) = 0",
            "sit(0, 4) = -9");

        e.says("Promise 6", "-1.");
        e.refused(TOLD, -1, "fix(4, true)", "fix(4, false)", "fix(-1, true)", "fix(least, true)", "fix(most, false)");
        e.refused("", -1, "fix(0, true)", "fix(0, false)");
    }

    private static void promise7(Edges e) {
        e.says("Terms", "VISITS between two TEAMS (0 .. 99 a week; 0 at first).");
        e.row("team(1, 0, 0, 0); team(1, 0, 0, 0); two(0, 1, 0, 99) = 0; two(1, 0, 0, 0) = 99; two(0, 1, 0, 1) = 0; two(1, 0, 0, 1) = 1");
        e.refused(TOLD, -4, "two(0, 1, 0, -1)", "two(1, 0, 0, least)");
        e.refused(TOLD, -6, "two(0, 1, 0, 100)", "two(1, 0, 0, most)");

        e.says("Promise 7", "Of two TEAMS what 0 VISITS, 1 BARRED (0, 1), 2 NEAR (0, 1) becomes v: what it was.");
        e.row(FULL, "two(15, 0, 0, 99) = 0; two(0, 15, 0, 98) = 99; two(15, 0, 0, 0) = 98",
            "two(15, 0, 1, 1) = 0; two(0, 15, 1, 1) = 1; two(0, 15, 1, 0) = 1; two(15, 0, 1, 0) = 0",
            "two(0, 15, 2, 1) = 0; two(15, 0, 2, 1) = 1; two(15, 0, 1, 1) = 0; two(15, 0, 2, 0) = 1; two(0, 15, 2, 0) = 0",
            "two(15, 0, 1, 0) = 1; two(14, 15, 0, 0) = 0; two(0, 1, 1, 0) = 0; two(0, 14, 2, 0) = 0");

        e.says("Promise 7", "-1 (also of one); -2; -4; -6.");
        e.refused(TOLD, -1, "two(0, 0, 0, 1)", "two(3, 3, 0, 0)", "two(4, 4, 0, 0)", "two(0, 4, 0, 0)", "two(4, 0, 0, 0)",
            "two(-1, 0, 0, 0)", "two(0, -1, 0, 0)", "two(0, 0, 3, 0)", "two(0, 0, 0, -1)", "two(0, 0, 0, 100)",
            "two(0, 4, 3, -1)", "two(4, 0, -1, 100)", "two(0, 4, 0, -1)", "two(4, 0, 1, 2)");
        e.refused(TOLD, -2, "two(0, 1, 3, 0)", "two(0, 1, -1, 0)", "two(0, 1, 3, -1)", "two(0, 1, -1, 100)", "two(0, 1, most, 0)",
            "two(0, 1, least, 0)");
        e.refused(TOLD, -4, "two(0, 1, 0, -1)", "two(0, 1, 1, -1)", "two(0, 1, 2, -1)", "two(0, 2, 1, -1)");
        e.refused(TOLD, -6, "two(0, 1, 0, 100)", "two(0, 1, 1, 2)", "two(0, 1, 2, 2)", "two(0, 2, 1, 99)");
    }

    private static void promise9(Edges e) {
        e.says("Terms", "LIFT (1 .. 9; 1 at first)");
        e.row("lift(9) = 1; lift(1) = 9; lift(1) = 1");
        e.refused(TOLD, -4, "lift(0)", "lift(least)");
        e.refused(TOLD, -6, "lift(10)", "lift(most)");

        e.says("Promise 9", "LIFT: what it was.");
        e.row(Edges.each(2, 9, "lift(#)"), "lift(3) = 9; lift(3) = 3; lift(4) = 3");

        e.says("Promise 9", "-4; -6.");
        e.refused("", -4, "lift(0)", "lift(-1)", "lift(-9)");
        e.refused("", -6, "lift(10)", "lift(11)", "lift(99)");
    }

    private static void promise27(Edges e) {
        e.says("Promise 27", "Of a TEAM: 0 SIZE, 1 NEEDS, 2 LOUD, 3 NOISE, 4 its FLOOR (-9), 5 1 if FIXED, 6 TARGET (-9), "
            + "7 people told, 8 TURNS.");
        e.row("team(60, 7, 9, 8); teamOf(0, 0) = 60; teamOf(0, 1) = 7; teamOf(0, 2) = 9; teamOf(0, 3) = 8; teamOf(0, 4) = -9",
            "teamOf(0, 5) = 0; teamOf(0, 6) = -9; teamOf(0, 7) = 0; teamOf(0, 8) = 0; sit(0, 0); target(0, 0); floor(0, 1, 2)",
            "turn(0); person(0, 31, 0); fix(0, true); teamOf(0, 4) = 0; teamOf(0, 5) = 1; teamOf(0, 6) = 0; teamOf(0, 7) = 1",
            "teamOf(0, 8) = 1; fix(0, false); sit(0, 10); target(0, 10); teamOf(0, 4) = 10; teamOf(0, 6) = 10; teamOf(0, 5) = 0",
            Edges.each(1, 19, "person(0, 0, 0) = #"), "teamOf(0, 7) = 20; person(0, 0, 0) = -6; teamOf(0, 7) = 20",
            "sit(0, -9); target(0, -9); teamOf(0, 4) = -9; teamOf(0, 6) = -9; teamOf(0, 8) = 1");

        e.says("Promise 27", "-1; -2.");
        e.refused(TOLD, -1, "teamOf(4, 0)", "teamOf(-1, 0)", "teamOf(4, 9)", "teamOf(-1, -1)", "teamOf(least, most)");
        e.refused(TOLD, -2, "teamOf(3, 9)", "teamOf(3, -1)", "teamOf(3, most)", "teamOf(3, least)");
    }

    private static void promise28(Edges e) {
        e.says("Promise 28", "Free SEATS of a FLOOR (may be below 0: 10000 is added).");
        e.row("team(40, 0, 0, 0); team(1, 0, 0, 0); sit(0, 10); free(10) = 10000; sit(1, 10); free(10) = 9999; sit(1, -9)",
            "free(10) = 10000; sit(0, 0); free(10) = 10040; free(0) = 10000; floor(0, 0, 300); free(0) = 10260; floor(9, 0, 0)",
            "free(9) = 10000");
        e.row(Edges.each(0, 15, "team(60, 0, 0, 0); sit(#, 3)"), "floor(3, 0, 0); free(3) = 9040; grow(0, 0, 200); free(3) = 9040");

        e.says("Promise 28", "-1.");
        e.refused(TOLD, -1, "free(-1)", "free(11)", "free(-9)", "free(least)", "free(most)");
    }

    private static void promise29(Edges e) {
        e.says("Promise 29", "0 TEAMS, 1 that sit, 2 FIXED ones, 3 BARRED twos, 4 NEAR twos, 5 TARGETS, 6 people told,");
        e.row(Edges.each(0, 15, "team(1, 0, 0, 0); sit(#, 10); fix(#, true); target(#, 10)"),
            "count(0) = 16; count(1) = 16; count(2) = 16; count(3) = 0; count(4) = 0; count(5) = 16; count(6) = 0",
            "fix(0, false); fix(15, false); sit(0, -9); target(15, -9); count(0) = 16; count(1) = 15; count(2) = 14; count(5) = 15");
        String barred = "";
        String near = "";
        for (int t = 1; t < 16; t++) {
            barred += Edges.each(0, t - 1, "two(" + t + ", #, 1, 1)");
            near += Edges.each(0, t - 1, "two(#, " + t + ", 2, 1)");
        }
        e.row(FULL, barred, near, "count(3) = 120; count(4) = 120; two(0, 15, 1, 1) = 1; count(3) = 120; two(0, 15, 1, 0) = 1",
            "count(3) = 119; count(4) = 120; two(3, 2, 2, 0) = 1; count(4) = 119; two(3, 2, 0, 99) = 0; count(3) = 119");
        String people = "";
        for (int t = 0; t < 16; t++) {
            people += Edges.each(0, 19, "person(" + t + ", 0, 0)");
        }
        e.row(FULL, people, "count(6) = 320; person(15, 0, 0) = -6; count(6) = 320");

        e.says("Promise 29", "11 .. 16 REFUSALS -1 .. -6.");
        e.row("free(11) = -1; count(11) = 1; count(12) = 0; floor(0, 4, 0) = -2; count(12) = 1; count(13) = 0; turn(0) = -3",
            "count(13) = 1; count(14) = 0; lift(0) = -4; count(14) = 1; count(15) = 0; count(16) = 0; lift(10) = -6; count(16) = 1",
            "count(15) = 0; count(11) = 1; count(12) = 1; count(13) = 1; count(14) = 1");

        e.says("Promise 29", "-9 for another what.");
        e.row("count(-1) = -9; count(7) = -9; count(8) = -9; count(9) = -9; count(10) = -9; count(17) = -9; count(-9) = -9",
            "count(least) = -9; count(most) = -9", Edges.each(11, 16, "count(#) = 0"));
    }
}
