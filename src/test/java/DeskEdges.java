/** Boundary cases of desks: people, days at home, how sure they come, and the desks that are lacking. */
final class DeskEdges {
    private static final String TOLD = Edges.TOLD;
    private static final String TEAM = "team(1, 0, 0, 0);";
    private static final String NINETEEN = TEAM + Edges.each(0, 18, "person(0, 0, 64)");
    private static final String TWENTY = NINETEEN + "person(0, 0, 64)";
    private static final int WHOLE = 1 << 30;

    private DeskEdges() {
    }

    static void run(Edges e) {
        home(e);
        sure(e);
        atHome(e);
        desks(e);
        lackByDesks(e);
        rowOfParts(e);
        leastDesks(e);
        promise18(e);
        promise19(e);
        promise20(e);
        promise21(e);
    }

    private static void home(Edges e) {
        e.says("Terms", "==== III. DESKS: PEOPLE of a TEAM: HOME of each (a set of weekdays, bits 0 .. 4; 20 people of a TEAM at most are told)");
        for (int day = 0; day <= 4; day++) {
            for (int other = 0; other <= 4; other++) {
                e.row(TEAM, "person(0, " + (1 << day) + ", 64) = 0; lack(0, 0, " + other + ") = " + (day == other ? 0 : WHOLE));
                e.row(TEAM, "person(0, " + (31 - (1 << day)) + ", 64) = 0; lack(0, 0, " + other + ") = " + (day == other ? WHOLE : 0));
            }
        }
        e.refused(TOLD, -4, "person(0, -1, 64)", "person(0, least, 64)");
        e.refused(TOLD, -6, "person(0, 32, 64)", "person(0, most, 64)");
        e.row(NINETEEN, "teamOf(0, 7) = 19; person(0, 31, 0) = 19; teamOf(0, 7) = 20; person(0, 31, 0) = -6; teamOf(0, 7) = 20");
        e.row(TWENTY, TEAM, "person(1, 0, 64) = 0; person(0, 0, 64) = -6; person(1, 0, 64) = 1; count(6) = 22");
    }

    private static void sure(Edges e) {
        e.says("Terms", "and SURE (0 .. 64: of 64 times that it comes on another day; 64 at first).");
        for (int sure = 0; sure <= 64; sure++) {
            e.row(TEAM, "person(0, 1, " + sure + ") = 0; lack(0, 0, 1) = " + (sure << 24) + "; lack(0, 0, 0) = 0; lack(0, 1, 1) = 0; desks(0) = 1");
        }
        e.refused(TOLD, -4, "person(0, 0, -1)", "person(0, 0, least)");
        e.refused(TOLD, -6, "person(0, 0, 65)", "person(0, 0, most)");
    }

    private static void atHome(Edges e) {
        e.says("Terms", "On a weekday those at HOME don't come.");
        e.row(TEAM, "person(0, 31, 64)", Edges.each(0, 4, "lack(0, 0, #) = 0"), "desks(0) = 0; least(0, 0) = 0; person(0, 30, 64)",
            "lack(0, 0, 0) = 1073741824; lack(0, 1, 0) = 0", Edges.each(1, 4, "lack(0, 0, #) = 0"), "person(0, 15, 64); lack(0, 0, 4) = 1073741824",
            "lack(0, 1, 4) = 0; lack(0, 1, 0) = 0; desks(0) = 1; least(0, 0) = 1");
    }

    private static void desks(Edges e) {
        e.says("Terms", "DESKS of a TEAM: the most of its people that come on a weekday if all that may do.");
        e.row(TEAM, "desks(0) = 0; person(0, 31, 64); desks(0) = 0; person(0, 15, 0); desks(0) = 1; person(0, 23, 64); desks(0) = 1",
            "person(0, 15, 1); desks(0) = 2; person(0, 0, 64); desks(0) = 3");
        e.row(TEAM, "person(0, 30, 64); person(0, 30, 64); person(0, 15, 64); desks(0) = 2; person(0, 15, 64); person(0, 15, 64); desks(0) = 3");
        e.row(TWENTY, "desks(0) = 20");
        e.row(TEAM, Edges.each(0, 19, "person(0, 31, 64)"), "desks(0) = 0");
        e.row(TEAM, Edges.each(0, 19, "person(0, 15, 0)"), "desks(0) = 20; least(0, 0) = 0");
    }

    private static void lackByDesks(Edges e) {
        e.says("Terms", "LACK by n DESKS on a weekday: how many of 2 to the 30 that more than n come:");
        e.row(TWENTY, Edges.each(0, 19, "lack(0, #, 0) = 1073741824; lack(0, #, 4) = 1073741824"), "lack(0, 20, 0) = 0; lack(0, 20, 4) = 0");
        e.row(TEAM, "person(0, 0, 32); person(0, 0, 32); lack(0, 0, 2) = 805306368; lack(0, 1, 2) = 268435456; lack(0, 2, 2) = 0");
        e.row(TEAM, Edges.each(0, 20, "lack(0, #, 3) = 0"));
    }

    private static void rowOfParts(Edges e) {
        e.says("Terms", "a row of parts, all at 0 at first; one more person who may come: what is at j gets (what was at j) times (64 less SURE) "
            + "and (what was at j - 1) times SURE, by 64, cut.");
        // Five of 1 in 64 part the whole without a rest: 63^5, 5 * 63^4, 10 * 63^3, 10 * 63^2, 5 * 63 and 1.
        String five = TEAM + Edges.each(1, 5, "person(0, 0, 1)");
        e.row(five, "lack(0, 5, 0) = 0; lack(0, 4, 0) = 1; lack(0, 3, 0) = 316; lack(0, 2, 0) = 40006; lack(0, 1, 0) = 2540476; lack(0, 0, 0) = 81305281");
        // A sixth of 32 in 64 halves the sums of neighbours, together: (1 + 315) / 2 is 158; and 1 / 2 is cut to 0.
        e.row(five, "person(0, 0, 32); lack(0, 6, 0) = 0; lack(0, 5, 0) = 0; lack(0, 4, 0) = 158; lack(0, 3, 0) = 20160; lack(0, 2, 0) = 1290240",
            "lack(0, 1, 0) = 41922877; lack(0, 0, 0) = 577523551; desks(0) = 6; least(0, 0) = 5");
        // One at home on that day, and one who never comes, change no part.
        e.row(five, "person(0, 1, 32); lack(0, 4, 0) = 1; lack(0, 4, 1) = 158; person(0, 0, 0); lack(0, 4, 0) = 1; lack(0, 4, 1) = 158");
        // What is at 0 is cut too: 63^5 by 64 has 63 as its rest, and one who comes for sure then shifts all parts by one.
        e.row(five, "person(0, 0, 63); person(0, 0, 64); lack(0, 0, 0) = 1073741820; lack(0, 1, 0) = 1058235000; lack(0, 2, 0) = 80074578",
            "lack(0, 5, 0) = 310; lack(0, 6, 0) = 0");
        // One who comes for sure shifts the row by one.
        e.row(five, "person(0, 0, 64); lack(0, 0, 0) = 1073741824; lack(0, 1, 0) = 81305281; lack(0, 5, 0) = 1; lack(0, 6, 0) = 0");
    }

    private static void leastDesks(Edges e) {
        e.says("Terms", "LEAST DESKS by a share (0 .. 1000 thousandths): the least n with which on no weekday LACK by 2 to the 30 is above it "
            + "(LACK times 1000 no more than share times 2 to the 30).");
        e.row(TEAM, "least(0, 0) = 0; least(0, 1000) = 0; person(0, 30, 8); least(0, 125) = 0; least(0, 124) = 1; least(0, 0) = 1; least(0, 1000) = 0");
        e.row(TEAM, "person(0, 0, 63); least(0, 984) = 1; least(0, 985) = 0");
        e.row(TEAM, "person(0, 0, 1); least(0, 15) = 1; least(0, 16) = 0");
        // The worst weekday counts, be it the first or the last.
        e.row(TEAM, "person(0, 30, 64); person(0, 15, 64); person(0, 15, 32); least(0, 499) = 2; least(0, 500) = 1; least(0, 999) = 1; least(0, 1000) = 0");
        e.row(TEAM, "person(0, 30, 64); person(0, 30, 64); person(0, 15, 64); least(0, 999) = 2; least(0, 0) = 2");
        e.row(TWENTY, "least(0, 0) = 20; least(0, 999) = 20; least(0, 1000) = 0");
        e.refused(TOLD, -4, "least(0, -1)", "least(0, least)");
        e.refused(TOLD, -6, "least(0, 1001)", "least(0, most)");
    }

    private static void promise18(Edges e) {
        e.says("Promise 18", "A PERSON of a TEAM: its number in it.");
        e.row(TEAM, TEAM, Edges.each(0, 19, "person(0, 31, 64) = #"), Edges.each(0, 19, "person(1, 0, 0) = #"), "count(6) = 40; teamOf(0, 7) = 20",
            "teamOf(1, 7) = 20; teamOf(0, 0) = 1");

        e.says("Promise 18", "-1; -4; -6 (HOME 0 .. 31, SURE; 20, too).");
        e.refused(TOLD, -1, "person(4, 0, 0)", "person(-1, 0, 0)", "person(4, -1, 0)", "person(4, 0, -1)", "person(4, 32, 0)", "person(4, 0, 65)",
            "person(-1, 32, -1)");
        e.refused(TOLD, -4, "person(0, -1, 0)", "person(0, 0, -1)", "person(0, -1, -1)", "person(0, -1, 65)", "person(0, 32, -1)");
        e.refused(TOLD, -6, "person(0, 32, 0)", "person(0, 0, 65)", "person(0, 32, 65)");
        e.refused(TWENTY, -6, "person(0, 0, 0)", "person(0, 31, 64)", "person(0, 32, 0)", "person(0, 0, 65)");
        e.refused(TWENTY, -4, "person(0, -1, 0)", "person(0, 0, -1)");
        e.refused(TWENTY, -1, "person(1, 0, 0)", "person(1, -1, 0)");
        e.row(NINETEEN, "person(0, 32, 64) = -6; person(0, 0, 65) = -6; person(0, -1, 64) = -4; person(0, 31, 64) = 19; person(0, 31, 64) = -6");
    }

    private static void promise19(Edges e) {
        e.says("Promise 19", "DESKS of a TEAM.");
        e.row(TWENTY, TEAM, "desks(0) = 20; desks(1) = 0; person(1, 16, 64); desks(1) = 1; size(1, 60); desks(1) = 1");
        e.changesNothing(TOLD, "desks(0)");

        e.says("Promise 19", "-1.");
        e.refused(TOLD, -1, "desks(4)", "desks(-1)", "desks(least)", "desks(most)");
        e.refused("", -1, "desks(0)");
    }

    private static void promise20(Edges e) {
        e.says("Promise 20", "LACK of a TEAM by n DESKS (0 .. 20) on a weekday.");
        e.row(TWENTY, "lack(0, 0, 0) = 1073741824; lack(0, 20, 4) = 0; lack(0, 19, 4) = 1073741824; lack(0, 20, 0) = 0");
        e.changesNothing(TOLD, "lack(0, 0, 0)");
        e.changesNothing(TOLD, "lack(0, 20, 4)");

        e.says("Promise 20", "-1; -4; -6.");
        e.refused(TOLD, -1, "lack(4, 0, 0)", "lack(-1, 0, 0)", "lack(0, 0, 5)", "lack(0, 0, -1)", "lack(0, 0, least)", "lack(0, 0, most)",
            "lack(4, -1, 0)", "lack(4, 21, 0)", "lack(0, -1, 5)", "lack(0, 21, -1)", "lack(4, 21, 5)");
        e.refused(TOLD, -4, "lack(0, -1, 0)", "lack(0, -1, 4)", "lack(0, least, 0)");
        e.refused(TOLD, -6, "lack(0, 21, 0)", "lack(0, 21, 4)", "lack(0, most, 0)");
    }

    private static void promise21(Edges e) {
        e.says("Promise 21", "LEAST DESKS of a TEAM by a share.");
        e.row(TWENTY, TEAM, "least(0, 0) = 20; least(0, 1000) = 0; least(1, 0) = 0; least(1, 1000) = 0");
        e.changesNothing(TOLD, "least(0, 0)");

        e.says("Promise 21", "-1; -4; -6.");
        e.refused(TOLD, -1, "least(4, 0)", "least(-1, 0)", "least(4, -1)", "least(-1, 1001)");
        e.refused(TOLD, -4, "least(0, -1)", "least(3, -1)");
        e.refused(TOLD, -6, "least(0, 1001)", "least(3, 1001)");
    }
}
