/** Boundary cases of seatings: what is fit, what is walked, and the best seating. */
final class SeatingEdges {
    private static final String TOLD = Edges.TOLD;
    private static final String EIGHT = Edges.each(0, 7, "team(5, 0, 0, 0)");
    private static final String TWO = "team(1, 0, 0, 0); team(1, 0, 0, 0)";

    private SeatingEdges() {
    }

    static void run(Edges e) {
        suits(e);
        twos(e);
        fitBySeats(e);
        fitByNoise(e);
        fitOfAll(e);
        walked(e);
        setsOfTheBest(e);
        whoIsPut(e);
        leastWalked(e);
        fewestChange(e);
        first(e);
        allThatSit(e);
        amongThePut(e);
        promise11(e);
        promise11Refusals(e);
        promise12(e);
        promise13(e);
    }

    private static void suits(Edges e) {
        e.says("Terms", "A FLOOR SUITS a TEAM if it has all KINDS that it NEEDS.");
        for (int needs = 0; needs <= 7; needs++) {
            for (int kinds = 0; kinds <= 7; kinds++) {
                boolean suits = (needs & kinds) == needs;
                e.row("team(1, " + needs + ", 0, 0); floor(10, 1, " + kinds + "); fit() = 1",
                    "best(1024, 1, 0) = " + (suits ? 0 : -9), "sit(0, 10); fit() = " + (suits ? 1 : 0));
            }
        }

        e.says("Terms", "each FLOOR SUITS its TEAMS,");
        e.row("team(1, 1, 0, 0); team(1, 2, 0, 0); floor(0, 1, 1); floor(10, 1, 2); sit(0, 0); sit(1, 10); fit() = 1; sit(1, 0)",
            "fit() = 0; floor(0, 1, 3); fit() = 1; sit(0, 10); fit() = 0; sit(0, -9); fit() = 1");
    }

    private static void twos(Edges e) {
        e.says("Terms", "BARRED twos may not sit on one FLOOR;");
        e.row(TWO, "two(0, 1, 1, 1); fit() = 1; sit(0, 0); fit() = 1; sit(1, 0); fit() = 0; sit(1, 1); fit() = 1; sit(0, 1); fit() = 0",
            "two(1, 0, 1, 0); fit() = 1; two(1, 0, 1, 1); fit() = 0; sit(0, -9); fit() = 1");

        e.says("Terms", "NEAR twos must sit on FLOORS that differ by 1 at most (told; neither at first).");
        e.row(TWO, "count(3) = 0; count(4) = 0; sit(0, 5); sit(1, 5); fit() = 1; sit(1, 10); fit() = 1; two(0, 1, 1, 0) = 0",
            "two(0, 1, 2, 0) = 0; two(0, 1, 2, 1) = 0; fit() = 0; sit(1, 7); fit() = 0; sit(1, 6); fit() = 1; sit(1, 5); fit() = 1",
            "sit(1, 4); fit() = 1; sit(1, 3); fit() = 0; sit(1, -9); fit() = 1");
        // Floors do not go round: the lowest and the highest are far apart.
        e.row(TWO, "two(1, 0, 2, 1); sit(0, 0); sit(1, 10); fit() = 0; sit(0, 9); fit() = 1; sit(1, 0); fit() = 0; sit(0, 1); fit() = 1");

        e.says("Terms", "no two BARRED are on one, no NEAR ones too far apart,");
        e.row(TWO, "two(0, 1, 1, 1); two(0, 1, 2, 1); sit(0, 4); sit(1, 4); fit() = 0; sit(1, 5); fit() = 1; sit(1, 6); fit() = 0",
            "sit(1, 3); fit() = 1; sit(1, 2); fit() = 0");
        e.row(Edges.each(0, 15, "team(1, 0, 0, 0); sit(#, 10)"), "fit() = 1; two(15, 14, 1, 1); fit() = 0; two(14, 15, 1, 0); fit() = 1",
            "two(0, 15, 2, 1); fit() = 1; sit(0, 8); fit() = 0; sit(0, 9); fit() = 1");
    }

    private static void fitBySeats(Edges e) {
        e.says("Terms", "A SEATING (a FLOOR for each of some TEAMS) is FIT if on each FLOOR sizes together are SEATS at most,");
        e.row(Edges.each(0, 4, "team(60, 0, 0, 0); sit(#, 10)"), "floor(10, 0, 300); fit() = 1; floor(10, 0, 299); fit() = 0",
            "size(4, 59); fit() = 1; floor(10, 0, 0); fit() = 0");
        e.row("team(40, 0, 0, 0); team(1, 0, 0, 0); sit(0, 0); fit() = 1; sit(1, 0); fit() = 0; sit(1, 10); fit() = 1; floor(10, 0, 1)",
            "fit() = 1; floor(10, 0, 0); fit() = 0; sit(1, -9); fit() = 1");
        e.row("fit() = 1", Edges.each(0, 10, "floor(#, 0, 0)"), "fit() = 1; team(60, 7, 9, 0); fit() = 1");
    }

    private static void fitByNoise(Edges e) {
        e.says("Terms", "and on each FLOOR each TEAM bears the LOUD of each other one (LOUD no more than NOISE).");
        for (int loud = 0; loud <= 9; loud++) {
            for (int noise = 0; noise <= 9; noise++) {
                int fit = loud <= noise ? 1 : 0;
                e.row("team(1, 0, " + loud + ", 0); team(1, 0, 0, " + noise + "); sit(0, 10); sit(1, 10); fit() = " + fit);
                e.row("team(1, 0, 0, " + noise + "); team(1, 0, " + loud + ", 0); sit(0, 0); sit(1, 0); fit() = " + fit);
            }
        }
        e.row("team(1, 0, 9, 0); sit(0, 0); fit() = 1; team(1, 0, 0, 9); sit(1, 0); fit() = 1; team(1, 0, 0, 8); sit(2, 1); fit() = 1",
            "sit(2, 0); fit() = 0; sit(0, -9); fit() = 1; sit(0, 10); fit() = 1");
    }

    private static void fitOfAll(Edges e) {
        e.says("Promise 8", "Whether the SEATING that is is FIT: 1, 0.");
        e.row("fit() = 1; team(60, 7, 9, 0); fit() = 1; sit(0, 0); fit() = 0; floor(0, 0, 60); fit() = 0; floor(0, 1, 7); fit() = 1",
            "floor(0, 0, 59); fit() = 0; size(0, 59); fit() = 1; floor(0, 1, 6); fit() = 0; sit(0, -9); fit() = 1");
        e.changesNothing(TOLD, "fit()");
    }

    private static void walked(Edges e) {
        e.says("Terms", "WALKED: the sum over twos of TEAMS that both sit of VISITS times the difference of FLOORS, times");
        e.row(TWO, "walked() = 0; two(0, 1, 0, 99); walked() = 0; sit(0, 0); walked() = 0; sit(1, 0); walked() = 0; sit(1, 1)",
            "walked() = 99; sit(1, 10); walked() = 990; sit(0, 10); walked() = 0; sit(1, 0); walked() = 990; two(1, 0, 0, 0)",
            "walked() = 0; two(1, 0, 0, 1); lift(9); walked() = 90; sit(1, -9); walked() = 0");
        String all = Edges.each(0, 7, "team(1, 0, 0, 0); sit(#, 0)") + Edges.each(8, 15, "team(1, 0, 0, 0); sit(#, 10)");
        for (int t = 1; t < 16; t++) {
            all += Edges.each(0, t - 1, "two(" + t + ", #, 0, 99)");
        }
        e.row(all, "walked() = 63360; lift(9); walked() = 570240; best(1, 1, 0) = 570240; best(1024, 1, 0) = 561330");

        e.says("Promise 10", "WALKED now.");
        e.row("walked() = 0", TWO, "two(0, 1, 0, 7); sit(0, 3); sit(1, 5); walked() = 14; sit(1, 2); walked() = 7; fix(0, true); walked() = 7",
            "target(1, 9); walked() = 7; floor(3, 0, 0); walked() = 7; lift(2); walked() = 14");
        e.changesNothing(TOLD, "walked()");
    }

    private static void setsOfTheBest(Edges e) {
        e.says("Terms", "BEST SEATING for told FLOORS (a set, 4 at most) and told TEAMS (a set, 7 at most; none FIXED):");
        e.row(EIGHT, "best(1, 1, 0) = 0; best(1024, 128, 0) = 0; best(1539, 1, 0) = 0; best(1539, 127, 0) = 0; best(1, 127, 0) = 0",
            "best(1, 254, 1) = 7; best(1920, 254, 1) = 7; bestOf(1920, 254, 7) = 7");
        e.refused(EIGHT, -6, "best(31, 1, 0)", "best(1984, 127, 0)", "best(1, 255, 0)", "best(2047, 255, 1)", "bestOf(31, 1, 0)",
            "bestOf(1, 255, 0)", "seat(31, 1)", "seat(1, 255)", "seat(2047, 255)");
        e.refused(EIGHT + "fix(7, true)", -3, "best(1, 128, 0)", "bestOf(1, 128, 7)", "seat(1, 128)", "best(1, 129, 0)");
        e.row(EIGHT, "fix(7, true); best(1, 127, 1) = 7");
    }

    private static void whoIsPut(Edges e) {
        e.says("Terms", "these TEAMS are put on those FLOORS, all others stay:");
        // Team 0 would walk least where it is, but must leave it; team 2 sits nowhere and stays so.
        e.row("team(1, 0, 0, 0); team(1, 0, 0, 0); team(1, 0, 0, 0); sit(0, 5); sit(1, 5); two(0, 1, 0, 4); two(1, 2, 0, 9)",
            "best(1, 1, 0) = 20; best(1, 1, 1) = 1; seat(1, 1) = 1; teamOf(0, 4) = 0; teamOf(1, 4) = 5; teamOf(2, 4) = -9",
            "best(1, 4, 0) = 65; best(2, 4, 1) = 1; seat(1, 4) = 1; teamOf(2, 4) = 0; best(1, 1, 1) = 0; seat(1, 1) = 0");
    }

    private static void leastWalked(Edges e) {
        e.says("Terms", "of FIT ones that of least WALKED,");
        e.row(TWO, "sit(1, 5); two(0, 1, 0, 3); bestOf(1057, 1, 0) = 5; best(1057, 1, 0) = 0; best(1057, 1, 1) = 1; two(0, 1, 1, 1)",
            "bestOf(1105, 1, 0) = 4; best(1105, 1, 0) = 3; floor(4, 0, 0); bestOf(1105, 1, 0) = 6; best(1105, 1, 0) = 3; sit(0, 0)",
            "bestOf(1105, 1, 0) = 6; best(1105, 1, 1) = 1; floor(6, 0, 0); bestOf(1105, 1, 0) = 0; best(1105, 1, 0) = 15");
        // One walked less outweighs any number of changes: all seven leave their floor for it.
        e.row(Edges.each(0, 6, "team(1, 0, 0, 0); sit(#, 9)"), "team(1, 0, 0, 0); sit(7, 0)", Edges.each(0, 6, "two(7, #, 0, 1)"),
            "best(768, 127, 0) = 56; best(768, 127, 1) = 7; best(512, 127, 0) = 63; best(512, 127, 1) = 0");
    }

    private static void fewestChange(Edges e) {
        e.says("Terms", "of these the one in which the fewest of them change their FLOOR,");
        e.row(TWO, "sit(0, 10); sit(1, 3); best(1033, 3, 1) = 0; bestOf(1033, 3, 0) = 10; bestOf(1033, 3, 1) = 3; best(9, 3, 1) = 1",
            "bestOf(9, 3, 0) = 0; bestOf(9, 3, 1) = 3; best(6, 3, 1) = 2; bestOf(6, 3, 1) = 1");
        // One that sits nowhere changes wherever it is put.
        e.row(TWO, "sit(0, 3); best(9, 3, 1) = 1; best(9, 2, 1) = 1; bestOf(9, 3, 0) = 3; bestOf(9, 3, 1) = 0; sit(0, -9); best(9, 3, 1) = 2");
        // The two must be together: either goes to the other (one change), or both to the least floor (two).
        e.row(TWO, "two(0, 1, 0, 1); sit(0, 6); sit(1, 4); best(81, 3, 1) = 1; bestOf(81, 3, 0) = 4; bestOf(81, 3, 1) = 4; floor(4, 0, 1)",
            "bestOf(81, 3, 0) = 6; bestOf(81, 3, 1) = 6; floor(6, 0, 1); best(81, 3, 1) = 2; bestOf(81, 3, 0) = 0");
    }

    private static void first(Edges e) {
        e.says("Terms", "of these the first (TEAMS by numbers, the least FLOOR).");
        e.row("team(40, 0, 0, 0); team(40, 0, 0, 0); team(40, 0, 0, 0); bestOf(1538, 7, 0) = 1; bestOf(1538, 7, 1) = 9",
            "bestOf(1538, 7, 2) = 10; bestOf(1538, 6, 1) = 1; bestOf(1538, 6, 2) = 9; bestOf(1024, 4, 2) = 10");
        // Of two, the lower one takes the lower floor, though the other way round walks and changes just as much.
        e.row("team(40, 0, 0, 0); team(40, 0, 0, 0); sit(0, 8); sit(1, 8); two(0, 1, 0, 5); bestOf(6, 3, 0) = 1; bestOf(6, 3, 1) = 2",
            "best(6, 3, 0) = 5; best(6, 3, 1) = 2; floor(1, 1, 1); floor(2, 1, 0); bestOf(6, 3, 0) = 1");
        // The second must take what is left of one that the first could not have.
        e.row("team(1, 4, 0, 0); team(1, 0, 0, 0); floor(7, 1, 4); two(0, 1, 1, 1); bestOf(161, 3, 0) = 7; bestOf(161, 3, 1) = 0");
    }

    private static void allThatSit(Edges e) {
        e.says("Terms", "(FIT asks all TEAMS that sit.)");
        // Two that stay are barred and on one floor: no seating of the third can be fit.
        e.row("team(1, 0, 0, 0); team(1, 0, 0, 0); team(1, 0, 0, 0); two(1, 2, 1, 1); sit(1, 9); sit(2, 9); best(1, 1, 0) = -9",
            "bestOf(1, 1, 0) = -9; seat(1, 1) = -3; best(513, 3, 0) = 0; sit(2, -9); best(1, 1, 0) = 0");
        // One that stays is on a floor that does not suit it, or is too small, or not near enough.
        e.row(TWO, "sit(1, 9); floor(9, 0, 0); best(1, 1, 0) = -9; floor(9, 0, 1); best(1, 1, 0) = 0; best(512, 1, 0) = -9; floor(9, 0, 2)",
            "best(512, 1, 0) = 0; two(0, 1, 2, 1); best(128, 1, 0) = -9; best(256, 1, 0) = 0; best(1024, 1, 0) = 0; sit(1, -9)",
            "best(128, 1, 0) = 0");
        e.row("team(1, 0, 0, 0); team(1, 1, 0, 0); sit(1, 9); best(1, 1, 0) = -9; floor(9, 1, 1); best(1, 1, 0) = 0");
        // Noise counts among those that stay and those that are put, either way.
        e.row("team(1, 0, 5, 4); team(1, 0, 4, 5); team(1, 0, 0, 4); sit(1, 9); best(512, 1, 0) = 0; sit(2, 9); best(512, 1, 0) = -9",
            "sit(2, 8); best(512, 1, 0) = 0; bestOf(768, 1, 0) = 9");
        e.row("team(1, 0, 0, 4); team(1, 0, 5, 9); sit(1, 9); best(512, 1, 0) = -9; sit(1, -9); best(512, 1, 0) = 0");
    }

    private static void amongThePut(Edges e) {
        e.says("Terms", "(a FLOOR for each of some TEAMS) is FIT");
        // Those that are put are asked among themselves too: barred, near, noise and seats.
        e.row(TWO, "two(0, 1, 1, 1); best(1024, 3, 0) = -9; best(1025, 3, 0) = 0; bestOf(1025, 3, 1) = 10; two(0, 1, 2, 1); best(1025, 3, 0) = -9",
            "best(1537, 3, 0) = 0; bestOf(1537, 3, 0) = 9; bestOf(1537, 3, 1) = 10");
        e.row("team(1, 0, 5, 9); team(1, 0, 0, 4); best(1, 3, 0) = -9; best(3, 3, 0) = 0; bestOf(3, 3, 1) = 1");
        e.row("team(1, 0, 0, 4); team(1, 0, 5, 9); best(1, 3, 0) = -9; bestOf(3, 3, 1) = 1");
        e.row("team(20, 0, 0, 0); team(21, 0, 0, 0); best(1, 3, 0) = -9; bestOf(3, 3, 1) = 1; floor(0, 0, 41); bestOf(3, 3, 1) = 0");
        // What the first floors tried took of the seats is free again: 30 and 10 go to the floor of 40, 25 to that of 25.
        e.row("team(10, 0, 0, 0); team(25, 0, 0, 0); team(30, 0, 0, 0); floor(0, 0, 25); floor(1, 0, 40); floor(2, 0, 0)",
            "bestOf(7, 7, 0) = 1; bestOf(7, 7, 1) = 0; bestOf(7, 7, 2) = 1; best(7, 7, 1) = 3");
        // The lowest team stays, and is asked as any other that stays.
        e.row(TWO, "sit(0, 5); two(0, 1, 0, 3); best(1, 2, 0) = 15; bestOf(1025, 2, 1) = 0; bestOf(1088, 2, 1) = 6; two(0, 1, 2, 1)",
            "best(1, 2, 0) = -9; best(64, 2, 0) = 3; two(0, 1, 1, 1); best(32, 2, 0) = -9; floor(5, 1, 0); best(16, 2, 0) = 3");
    }

    private static void promise11(Edges e) {
        e.says("Promise 11", "BEST SEATING: WALKED (what 0), how many change (1);");
        e.row(TWO, "two(0, 1, 0, 99); sit(0, 0); sit(1, 10); lift(9); best(1, 1, 0) = 8910; best(1, 1, 1) = 0; best(1025, 3, 0) = 0",
            "best(1025, 3, 1) = 1; best(2, 1, 0) = 8019; best(2, 1, 1) = 1; teamOf(0, 4) = 0; walked() = 8910");
        e.row(Edges.each(0, 6, "team(1, 0, 0, 0)"), "best(15, 127, 0) = 0; best(15, 127, 1) = 7");
        e.changesNothing(TOLD, "best(6, 3, 0)");
        e.changesNothing(TOLD, "best(1, 8, 1)");

        e.says("Promise 11", "-9 there is none that is FIT.");
        e.row("team(41, 0, 0, 0); best(2, 1, 0) = -9; best(2, 1, 1) = -9; best(15, 1, 0) = -9; bestOf(15, 1, 0) = -9; size(0, 40)",
            "best(2, 1, 0) = 0; best(2, 1, 1) = 1", Edges.each(11, 16, "count(#) = 0"));
        e.changesNothing(TOLD, "best(1, 2, 0)");
    }

    private static void promise11Refusals(Edges e) {
        String fixed = EIGHT + "fix(2, true)";
        e.says("Promise 11", "-1 (sets: others, none); -2; -3 a FIXED one; -6 more than 4, 7.");
        e.refused(fixed, -1, "best(0, 1, 0)", "best(1, 0, 0)", "best(0, 0, 0)", "best(2048, 1, 0)", "best(2049, 1, 0)", "best(1, 256, 0)",
            "best(1, 257, 0)", "best(-1, 1, 0)", "best(1, -1, 0)", "best(least, 1, 0)", "best(1, least, 0)", "best(most, most, 0)");
        e.refused(fixed, -2, "best(1, 1, -1)", "best(1, 1, 2)", "best(1, 1, least)", "best(1, 1, most)");
        e.refused(fixed, -3, "best(1, 4, 0)", "best(1, 4, 1)", "best(15, 12, 0)");
        e.refused(fixed, -6, "best(31, 1, 0)", "best(31, 1, 1)", "best(2047, 251, 0)", "best(31, 3, 0)");
        e.refused(EIGHT, -6, "best(1, 255, 0)", "best(15, 255, 1)");

        e.says("Promise 11", "(In this order: -1, -2, -3, -6.)");
        e.refused(fixed, -1, "best(0, 1, 2)", "best(1, 0, 2)", "best(2048, 4, 0)", "best(1, 260, 0)", "best(4095, 1, 0)", "best(1, 511, 0)",
            "best(0, 4, 0)", "best(0, 255, 0)", "best(31, 0, 0)", "best(-1, -1, -1)", "best(4095, 511, 2)");
        e.refused(fixed, -2, "best(1, 4, 2)", "best(31, 1, 2)", "best(1, 255, -1)", "best(31, 255, 2)");
        e.refused(fixed, -3, "best(31, 4, 0)", "best(1, 255, 0)", "best(31, 255, 1)", "best(2047, 255, 0)");
        // A refusal comes before there is none that is fit.
        e.refused("team(41, 0, 0, 0)", -6, "best(31, 1, 0)");
        e.refused("team(41, 0, 0, 0); fix(0, true)", -3, "best(1, 1, 0)");
        e.refused("team(41, 0, 0, 0)", -2, "best(1, 1, 2)");
    }

    private static void promise12(Edges e) {
        e.says("Promise 12", "The FLOOR of a TEAM of the set in it; -9 none.");
        e.row("team(20, 0, 0, 0); team(20, 0, 0, 0); team(21, 0, 0, 0); bestOf(1025, 7, 0) = 0; bestOf(1025, 7, 1) = 0",
            "bestOf(1025, 7, 2) = 10; bestOf(1, 7, 0) = -9; bestOf(1, 7, 2) = -9; teamOf(0, 4) = -9; bestOf(1024, 4, 2) = 10",
            Edges.each(11, 16, "count(#) = 0"));
        e.changesNothing(TOLD, "bestOf(6, 3, 1)");
        e.changesNothing(TOLD, "bestOf(1, 2, 1)");

        e.says("Promise 12", "Refused as best(), then -1 it is not of the set.");
        String fixed = EIGHT + "fix(2, true)";
        e.refused(fixed, -1, "bestOf(0, 1, 0)", "bestOf(1, 0, 0)", "bestOf(2048, 1, 0)", "bestOf(1, 256, 0)", "bestOf(-1, 1, 0)",
            "bestOf(1, -1, 0)", "bestOf(0, 4, 2)", "bestOf(4095, 4, 2)", "bestOf(0, 1, 1)");
        e.refused(fixed, -3, "bestOf(1, 4, 2)", "bestOf(31, 4, 2)", "bestOf(1, 255, 0)", "bestOf(1, 4, 0)", "bestOf(1, 4, 8)",
            "bestOf(1, 4, -1)");
        e.refused(fixed, -6, "bestOf(31, 1, 0)", "bestOf(31, 1, 1)", "bestOf(31, 1, 8)", "bestOf(31, 1, -1)");
        e.refused(EIGHT, -6, "bestOf(1, 255, 0)", "bestOf(1, 255, 8)");
        e.refused(fixed, -1, "bestOf(1, 1, 1)", "bestOf(1, 1, 2)", "bestOf(1, 1, 8)", "bestOf(1, 1, -1)", "bestOf(1, 1, 32)",
            "bestOf(1, 1, -32)", "bestOf(1, 1, least)", "bestOf(1, 1, most)", "bestOf(1, 128, 6)");
        // Not of the set comes before there is none.
        e.refused("team(41, 0, 0, 0); team(1, 0, 0, 0)", -1, "bestOf(1, 1, 1)");
        e.row("team(41, 0, 0, 0); team(1, 0, 0, 0)", "bestOf(1, 1, 0) = -9; count(11) = 0; count(13) = 0");
    }

    private static void promise13(Edges e) {
        e.says("Promise 13", "It is done so: how many changed.");
        e.row(Edges.each(0, 7, "team(10, 0, 0, 0)"), "seat(1539, 127) = 7; teamOf(0, 4) = 0; teamOf(3, 4) = 0; teamOf(4, 4) = 1",
            "teamOf(6, 4) = 1; teamOf(7, 4) = -9; count(1) = 7; seat(1539, 127) = 0; seat(1024, 64) = 1; teamOf(6, 4) = 10",
            "free(0) = 10000; free(10) = 10030; fit() = 1; target(6, 3); seat(512, 64) = 1; teamOf(6, 6) = 3");

        e.says("Promise 13", "Refused as best(), then -3 there is none.");
        String fixed = EIGHT + "sit(2, 0); fix(2, true)";
        e.refused(fixed, -1, "seat(0, 1)", "seat(1, 0)", "seat(2048, 1)", "seat(1, 256)", "seat(-1, 1)", "seat(1, -1)", "seat(0, 4)",
            "seat(4095, 4)", "seat(1, 511)");
        e.refused(fixed, -3, "seat(1, 4)", "seat(31, 4)", "seat(1, 255)", "seat(31, 255)");
        e.refused(fixed, -6, "seat(31, 1)", "seat(31, 251)");
        e.refused(EIGHT, -6, "seat(1, 255)");
        e.refused("team(41, 0, 0, 0); sit(0, 3)", -3, "seat(1, 1)", "seat(15, 1)", "seat(8, 1)");
        e.refused("team(41, 0, 0, 0); sit(0, 3)", -6, "seat(31, 1)");
        e.refused("team(41, 0, 0, 0); sit(0, 3)", -1, "seat(0, 1)", "seat(1, 2)");
        e.row("team(40, 0, 0, 0); sit(0, 3); seat(1, 1) = 1; size(0, 41); seat(1, 1) = -3; count(13) = 1; teamOf(0, 4) = 0");
    }
}
