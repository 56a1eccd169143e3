import java.util.Random;

/** All promises: long runs of chance calls (always the same ones), each answer compared with SlowPlans'. */
final class ModelTest {
    private static final int RUNS = 160;
    private static final int CALLS = 512;

    private final Random chance;
    private final FloorPlans x = new FloorPlans();
    private final SlowPlans slow = new SlowPlans();
    private final Due due;
    private final int run;
    // Some runs have few floors and small teams, so that seatings and moves are tight; others many.
    private final int floors;
    private final int most;

    private ModelTest(int run, Due due) {
        this.run = run;
        this.due = due;
        chance = new Random(run * 7919L + 17);
        floors = run % 3 == 0 ? 11 : 3 + run % 3;
        most = run % 4 == 0 ? 16 : 4 + run % 4;
    }

    public static void main(String[] args) {
        Due due = new Due("ModelTest");
        for (int run = 0; run < RUNS; run++) {
            ModelTest test = new ModelTest(run, due);
            for (int i = 0; i < CALLS; i++) {
                test.call(i);
            }
        }
        due.end();
    }

    private void same(String call, int got, int want) {
        due.is("run " + run + ": " + call, got, want);
    }

    /** Mostly within the bounds, now and then a little outside, seldom far outside. */
    private int within(int least, int greatest) {
        int luck = chance.nextInt(60);
        if (luck == 0) {
            return chance.nextBoolean() ? least - 1 : greatest + 1;
        }
        if (luck == 1) {
            return chance.nextInt();
        }
        if (luck < 8) {
            return luck < 5 ? least : greatest;
        }
        return least + chance.nextInt(greatest - least + 1);
    }

    private int aFloor() {
        return chance.nextInt(50) == 0 ? within(0, 10) : chance.nextInt(floors);
    }

    private int aFloorOrNone() {
        return chance.nextInt(25) == 0 ? -9 : aFloor();
    }

    private int aTeam() {
        int n = Math.max(1, slow.count(0));
        return chance.nextInt(50) == 0 ? within(0, n) : chance.nextInt(n);
    }

    private int aSet(int of, int members) {
        if (chance.nextInt(30) == 0) {
            return chance.nextInt(4) == 0 ? chance.nextInt() : chance.nextInt(1 << of + 1);
        }
        int set = 0;
        int n = 1 + chance.nextInt(members);
        for (int i = 0; i < n; i++) {
            set |= 1 << chance.nextInt(of);
        }
        return set;
    }

    private int teamSet() {
        return aSet(Math.max(1, slow.count(0)), 5);
    }

    private void call(int i) {
        int luck = i < 3 ? 1 : chance.nextInt(100);
        if (luck < 45) {
            tell(i < 3 ? 1 : chance.nextInt(13));
        } else if (luck < 70) {
            seatings(chance.nextInt(6));
        } else {
            readings(chance.nextInt(12));
        }
    }

    private void tell(int kind) {
        int t = aTeam();
        switch (kind) {
            case 0: {
                int f = aFloor();
                int what = within(0, 3);
                int v = what == 0 ? within(0, 90) : what == 1 ? within(0, 7) : what == 2 ? within(0, 30) : within(0, 19);
                v = chance.nextInt(10) == 0 ? within(0, 999) : v;
                same("floor(" + f + ", " + what + ", " + v + ")", x.floor(f, what, v), slow.floor(f, what, v));
                break;
            }
            case 1: {
                if (slow.count(0) >= most && chance.nextInt(10) != 0) {
                    break;
                }
                int size = chance.nextInt(8) == 0 ? within(1, 60) : within(1, 15);
                int needs = chance.nextInt(10) == 0 ? within(0, 7) : 0;
                int loud = within(0, 5);
                int noise = chance.nextInt(4) == 0 ? within(3, 9) : 9;
                same("team(" + size + ", " + needs + ", " + loud + ", " + noise + ")",
                    x.team(size, needs, loud, noise), slow.team(size, needs, loud, noise));
                break;
            }
            case 2: {
                int v = chance.nextInt(8) == 0 ? within(1, 60) : within(1, 15);
                same("size(" + t + ", " + v + ")", x.size(t, v), slow.size(t, v));
                break;
            }
            case 3: case 4: {
                int f = aFloorOrNone();
                same("sit(" + t + ", " + f + ")", x.sit(t, f), slow.sit(t, f));
                break;
            }
            case 5: {
                boolean on = chance.nextInt(15) == 0;
                same("fix(" + t + ", " + on + ")", x.fix(t, on), slow.fix(t, on));
                break;
            }
            case 6: case 7: {
                int b = aTeam();
                int what = chance.nextInt(3) == 0 ? within(0, 2) : 0;
                int v = what == 0 ? within(0, 99) : within(0, 1) * (chance.nextInt(2));
                same("two(" + t + ", " + b + ", " + what + ", " + v + ")", x.two(t, b, what, v), slow.two(t, b, what, v));
                break;
            }
            case 8: {
                int v = within(1, 9);
                same("lift(" + v + ")", x.lift(v), slow.lift(v));
                break;
            }
            case 9: case 10: {
                int f = aFloorOrNone();
                same("target(" + t + ", " + f + ")", x.target(t, f), slow.target(t, f));
                break;
            }
            case 11: {
                int home = within(0, 31);
                int sure = within(0, 64);
                same("person(" + t + ", " + home + ", " + sure + ")", x.person(t, home, sure), slow.person(t, home, sure));
                break;
            }
            default: {
                int quarter = within(0, 19);
                int v = chance.nextInt(4) == 0 ? -1 : within(-1, 200);
                same("grow(" + t + ", " + quarter + ", " + v + ")", x.grow(t, quarter, v), slow.grow(t, quarter, v));
            }
        }
    }

    private void seatings(int kind) {
        int floorSet = aSet(floors, 4);
        int teamSet = teamSet();
        int swing = chance.nextInt(3) == 0 ? 0 : aSet(floors, 2);
        switch (kind) {
            case 0: {
                int what = within(0, 1);
                same("best(" + floorSet + ", " + teamSet + ", " + what + ")",
                    x.best(floorSet, teamSet, what), slow.best(floorSet, teamSet, what));
                break;
            }
            case 1: {
                int t = aTeam();
                same("bestOf(" + floorSet + ", " + teamSet + ", " + t + ")",
                    x.bestOf(floorSet, teamSet, t), slow.bestOf(floorSet, teamSet, t));
                break;
            }
            case 2:
                same("seat(" + floorSet + ", " + teamSet + ")", x.seat(floorSet, teamSet), slow.seat(floorSet, teamSet));
                break;
            case 3:
                same("weekends(" + swing + ")", x.weekends(swing), slow.weekends(swing));
                break;
            case 4: {
                int at = within(0, 4);
                int what = within(0, 1);
                same("move(" + swing + ", " + at + ", " + what + ")", x.move(swing, at, what), slow.move(swing, at, what));
                break;
            }
            default:
                if (chance.nextInt(3) == 0) {
                    same("go(" + swing + ")", x.go(swing), slow.go(swing));
                }
        }
    }

    private void readings(int kind) {
        int t = aTeam();
        int f = aFloor();
        int what = within(0, 1);
        int quarter = within(0, 19);
        switch (kind) {
            case 0: same("fit()", x.fit(), slow.fit()); break;
            case 1: same("walked()", x.walked(), slow.walked()); break;
            case 2: same("desks(" + t + ")", x.desks(t), slow.desks(t)); break;
            case 3: {
                int n = within(0, 20);
                int weekday = within(0, 4);
                same("lack(" + t + ", " + n + ", " + weekday + ")", x.lack(t, n, weekday), slow.lack(t, n, weekday));
                break;
            }
            case 4: {
                int share = within(0, 1000);
                same("least(" + t + ", " + share + ")", x.least(t, share), slow.least(t, share));
                break;
            }
            case 5: same("sizeIn(" + t + ", " + quarter + ")", x.sizeIn(t, quarter), slow.sizeIn(t, quarter)); break;
            case 6: same("kept(" + quarter + ", " + what + ")", x.kept(quarter, what), slow.kept(quarter, what)); break;
            case 7: same("bill(" + t + ")", x.bill(t), slow.bill(t)); break;
            case 8: same("turn(" + f + ")", x.turn(f), slow.turn(f)); break;
            case 9: {
                int fact = within(0, 8);
                same("teamOf(" + t + ", " + fact + ")", x.teamOf(t, fact), slow.teamOf(t, fact));
                break;
            }
            case 10: same("free(" + f + ")", x.free(f), slow.free(f)); break;
            default: {
                int of = within(0, 16);
                same("count(" + of + ")", x.count(of), slow.count(of));
            }
        }
    }
}
