import java.util.Random;

/** Promises 11 to 13 and 15 to 17: tight houses, made so that searches succeed often, compared with SlowPlans. */
final class SearchTest {
    private static final int SEATINGS = 1500;
    private static final int MOVINGS = 1500;

    private final Random chance;
    private final FloorPlans x = new FloorPlans();
    private final SlowPlans slow = new SlowPlans();
    private final Due due;
    private final String name;

    private SearchTest(String name, int run, Due due) {
        this.name = name + " " + run + ": ";
        this.due = due;
        chance = new Random(run * 104729L + 5);
    }

    public static void main(String[] args) {
        Due due = new Due("SearchTest");
        for (int run = 0; run < SEATINGS; run++) {
            // The greatest searches are slow in the model, so there are few of them.
            boolean greatest = run % 100 == 0;
            new SearchTest("seating", run, due).seating(greatest ? 7 : 1 + run % 5, greatest ? 4 : 1 + run % 4);
        }
        for (int run = 0; run < MOVINGS; run++) {
            boolean greatest = run % 100 == 0;
            new SearchTest("moving", run, due).moving(greatest ? 6 : 1 + run % 5, greatest ? 5 : 2 + run % 3);
        }
        due.end();
    }

    private void same(String call, int got, int want) {
        due.is(name + call, got, want);
    }

    private void floor(int f, int what, int v) {
        same("floor(" + f + ", " + what + ", " + v + ")", x.floor(f, what, v), slow.floor(f, what, v));
    }

    private void team(int size, int needs, int loud, int noise, int f) {
        same("team", x.team(size, needs, loud, noise), slow.team(size, needs, loud, noise));
        int t = slow.count(0) - 1;
        same("sit(" + t + ", " + f + ")", x.sit(t, f), slow.sit(t, f));
    }

    private void two(int a, int b, int what, int v) {
        same("two(" + a + ", " + b + ", " + what + ", " + v + ")", x.two(a, b, what, v), slow.two(a, b, what, v));
    }

    private int someOf(int n, int members) {
        int set = 0;
        while (Integer.bitCount(set) < members) {
            set |= 1 << chance.nextInt(n);
        }
        return set;
    }

    private void seating(int chosen, int offered) {
        int teams = chosen + chance.nextInt(4);
        for (int f = 0; f < 11; f++) {
            floor(f, 0, 20 + chance.nextInt(30));
            floor(f, 1, chance.nextInt(5) == 0 ? chance.nextInt(8) : 7);
        }
        for (int t = 0; t < teams; t++) {
            int needs = chance.nextInt(3) == 0 ? chance.nextInt(8) : 0;
            int noise = chance.nextInt(4) == 0 ? chance.nextInt(10) : 9;
            int f = chance.nextInt(5) == 0 ? -9 : chance.nextInt(11);
            team(1 + chance.nextInt(14), needs, chance.nextInt(6), noise, f);
        }
        for (int a = 0; a < teams; a++) {
            for (int b = 0; b < a; b++) {
                two(a, b, 0, chance.nextInt(2) == 0 ? 0 : chance.nextInt(4));
                two(a, b, 1, chance.nextInt(12) == 0 ? 1 : 0);
                two(a, b, 2, chance.nextInt(25) == 0 ? 1 : 0);
            }
        }
        int lift = 1 + chance.nextInt(9);
        same("lift(" + lift + ")", x.lift(lift), slow.lift(lift));
        askSeating(someOf(11, offered), someOf(teams, chosen));
    }

    private void askSeating(int floorSet, int teamSet) {
        String sets = "(" + floorSet + ", " + teamSet + ", ";
        same("best" + sets + "0)", x.best(floorSet, teamSet, 0), slow.best(floorSet, teamSet, 0));
        same("best" + sets + "1)", x.best(floorSet, teamSet, 1), slow.best(floorSet, teamSet, 1));
        same("seat" + sets, x.seat(floorSet, teamSet), slow.seat(floorSet, teamSet));
        for (int t = 0; t < slow.count(0); t++) {
            same("teamOf(" + t + ", 4)", x.teamOf(t, 4), slow.teamOf(t, 4));
        }
        same("walked", x.walked(), slow.walked());
        same("fit", x.fit(), slow.fit());
    }

    private void moving(int movers, int stops) {
        int base = chance.nextInt(12 - stops);
        int[] used = new int[11];
        for (int t = 0; t < movers + 2; t++) {
            int f = base + chance.nextInt(stops);
            int size = 1 + chance.nextInt(9);
            team(size, 0, 0, 0, f);
            used[f] += size;
            if (t < movers) {
                int to = base + chance.nextInt(stops);
                same("target(" + t + ", " + to + ")", x.target(t, to), slow.target(t, to));
            }
        }
        for (int f = 0; f < 11; f++) {
            floor(f, 0, Math.max(0, used[f] + chance.nextInt(16) - 2));
        }
        int swing = someOf(stops, chance.nextInt(stops + 1)) << base;
        same("weekends(" + swing + ")", x.weekends(swing), slow.weekends(swing));
        for (int i = 0; i <= Math.max(0, slow.weekends(swing)); i++) {
            same("move(" + swing + ", " + i + ", 0)", x.move(swing, i, 0), slow.move(swing, i, 0));
            same("move(" + swing + ", " + i + ", 1)", x.move(swing, i, 1), slow.move(swing, i, 1));
        }
        same("go(" + swing + ")", x.go(swing), slow.go(swing));
        for (int t = 0; t < slow.count(0); t++) {
            same("teamOf(" + t + ", 4)", x.teamOf(t, 4), slow.teamOf(t, 4));
            same("teamOf(" + t + ", 6)", x.teamOf(t, 6), slow.teamOf(t, 6));
        }
    }
}
