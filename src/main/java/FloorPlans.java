import java.util.Arrays;

/** Teams on floors: seatings, weekends of moves, shared desks, leases, bills and turns at the windows. */
public final class FloorPlans {
    private static final int NONE = -9;

    private static final int NOBODY = -1;
    private static final int OTHER = -2;
    private static final int STATE = -3;
    private static final int BELOW = -4;
    private static final int ROOM = -6;
    private static final int REFUSAL_KINDS = 6;

    private static final int FLOORS = 11;
    private static final int ALL_FLOORS = (1 << FLOORS) - 1;
    private static final int TEAMS = 16;
    private static final int PEOPLE = 20;
    private static final int QUARTERS = 20;
    private static final int WEEKDAYS = 5;

    // The places in a floor's row are the numbers that floor() takes as what.
    private static final int SEATS = 0;
    private static final int KINDS = 1;
    private static final int PRICE = 2;
    private static final int LEASE = 3;
    private static final int[] FLOOR_FIRST = {40, 0, 10, 19};
    private static final int[] FLOOR_MOST = {300, 7, 999, 19};
    private static final int SUN = 2;

    // The places in a team's row are the numbers that teamOf() takes as what.
    private static final int SIZE = 0;
    private static final int NEEDS = 1;
    private static final int LOUD = 2;
    private static final int NOISE = 3;
    private static final int PLACE = 4;
    private static final int FIXED = 5;
    private static final int TARGET = 6;
    private static final int TOLD = 7;
    private static final int TURNS = 8;
    private static final int TEAM_FACTS = 9;
    private static final int SIZE_MOST = 60;
    private static final int NEEDS_MOST = 7;
    private static final int SOUND_MOST = 9;

    // The numbers that two() takes as what.
    private static final int VISITS = 0;
    private static final int BARRED = 1;
    private static final int NEAR = 2;
    private static final int[] TWO_MOST = {99, 1, 1};

    private static final int LIFT_MOST = 9;
    private static final int HOME_MOST = 31;
    private static final int SURE_MOST = 64;
    private static final int SHARE_MOST = 1000;
    private static final int GROWTH_MOST = 200;
    private static final int MISSING = -1;

    private static final int OFFERED_MOST = 4;
    private static final int CHOSEN_MOST = 7;
    private static final int MOVERS_MOST = 6;
    private static final int STOPS_MOST = 5;

    private final House house = new House();
    private final Seating seating = new Seating(house);
    private final Moving moving = new Moving(house);
    private final Chances chances = new Chances(house);
    private final Leases leases = new Leases(house);
    private final int[] refusals = new int[REFUSAL_KINDS + 1];

    public FloorPlans() {
    }

    public int floor(int f, int what, int v) {
        if (noFloor(f)) {
            return refuse(NOBODY);
        }
        if (what < 0 || what >= FLOOR_MOST.length) {
            return refuse(OTHER);
        }
        if (v < 0) {
            return refuse(BELOW);
        }
        if (v > FLOOR_MOST[what]) {
            return refuse(ROOM);
        }
        return exchange(house.floors[f], what, v);
    }

    public int team(int size, int needs, int loud, int noise) {
        if (size < 1 || needs < 0 || loud < 0 || noise < 0) {
            return refuse(BELOW);
        }
        if (size > SIZE_MOST || needs > NEEDS_MOST || loud > SOUND_MOST || noise > SOUND_MOST) {
            return refuse(ROOM);
        }
        if (house.teamCount >= TEAMS) {
            return refuse(ROOM);
        }
        int t = house.teamCount;
        house.teamCount++;
        int[] row = house.teams[t];
        row[SIZE] = size;
        row[NEEDS] = needs;
        row[LOUD] = loud;
        row[NOISE] = noise;
        return t;
    }

    public int size(int t, int v) {
        if (noTeam(t)) {
            return refuse(NOBODY);
        }
        if (v < 1) {
            return refuse(BELOW);
        }
        if (v > SIZE_MOST) {
            return refuse(ROOM);
        }
        return exchange(house.teams[t], SIZE, v);
    }

    public int sit(int t, int f) {
        if (noTeam(t) || (f != NONE && noFloor(f))) {
            return refuse(NOBODY);
        }
        if (house.teams[t][FIXED] == 1) {
            return refuse(STATE);
        }
        return exchange(house.teams[t], PLACE, f);
    }

    public int fix(int t, boolean on) {
        if (noTeam(t)) {
            return refuse(NOBODY);
        }
        int wanted = on ? 1 : 0;
        return exchange(house.teams[t], FIXED, wanted) == wanted ? 0 : 1;
    }

    public int two(int a, int b, int what, int v) {
        if (noTeam(a) || noTeam(b) || a == b) {
            return refuse(NOBODY);
        }
        if (what < 0 || what >= TWO_MOST.length) {
            return refuse(OTHER);
        }
        if (v < 0) {
            return refuse(BELOW);
        }
        if (v > TWO_MOST[what]) {
            return refuse(ROOM);
        }
        int[][] table = house.tableOf(what);
        exchange(table[a], b, v);
        return exchange(table[b], a, v);
    }

    public int fit() {
        return house.isFit(0) ? 1 : 0;
    }

    public int lift(int v) {
        if (v < 1) {
            return refuse(BELOW);
        }
        if (v > LIFT_MOST) {
            return refuse(ROOM);
        }
        int was = house.liftTimes;
        house.liftTimes = v;
        return was;
    }

    public int walked() {
        return house.walk(0) * house.liftTimes;
    }

    public int best(int floors, int teams, int what) {
        int no = whyNoSeating(floors, teams, what);
        if (no != 0) {
            return refuse(no);
        }
        seating.search(floors, teams);
        if (!seating.found) {
            return NONE;
        }
        return what == 0 ? seating.bestWalk * house.liftTimes : seating.bestChanges;
    }

    public int bestOf(int floors, int teams, int t) {
        int no = whyNoSeating(floors, teams, 0);
        if (no != 0) {
            return refuse(no);
        }
        if (noTeam(t) || !holds(teams, t)) {
            return refuse(NOBODY);
        }
        seating.search(floors, teams);
        return seating.found ? seating.bestFloorOf(t) : NONE;
    }

    public int seat(int floors, int teams) {
        int no = whyNoSeating(floors, teams, 0);
        if (no != 0) {
            return refuse(no);
        }
        seating.search(floors, teams);
        if (!seating.found) {
            return refuse(STATE);
        }
        seating.takeBest();
        return seating.bestChanges;
    }

    public int target(int t, int f) {
        if (noTeam(t) || (f != NONE && noFloor(f))) {
            return refuse(NOBODY);
        }
        return exchange(house.teams[t], TARGET, f);
    }

    public int weekends(int swing) {
        int no = whyNoMoving(swing);
        if (no != 0) {
            return refuse(no);
        }
        return moving.search(swing);
    }

    public int move(int swing, int i, int what) {
        int no = whyNoMoving(swing);
        if (no != 0) {
            return refuse(no);
        }
        if (what < 0 || what > 1) {
            return refuse(OTHER);
        }
        int fewest = moving.search(swing);
        if (i < 0 || i >= fewest) {
            return NONE;
        }
        moving.followTo(i);
        return what == 0 ? moving.movedTeam : moving.movedTo;
    }

    public int go(int swing) {
        int no = whyNoMoving(swing);
        if (no != 0) {
            return refuse(no);
        }
        int fewest = moving.search(swing);
        if (fewest == NONE) {
            return refuse(STATE);
        }
        house.takeTargets();
        return fewest;
    }

    public int person(int t, int home, int sure) {
        if (noTeam(t)) {
            return refuse(NOBODY);
        }
        if (home < 0 || sure < 0) {
            return refuse(BELOW);
        }
        int p = house.teams[t][TOLD];
        if (home > HOME_MOST || sure > SURE_MOST || p >= PEOPLE) {
            return refuse(ROOM);
        }
        house.homes[t][p] = home;
        house.sures[t][p] = sure;
        house.teams[t][TOLD] = p + 1;
        return p;
    }

    public int desks(int t) {
        if (noTeam(t)) {
            return refuse(NOBODY);
        }
        return chances.mostComing(t);
    }

    public int lack(int t, int n, int weekday) {
        if (noTeam(t) || weekday < 0 || weekday >= WEEKDAYS) {
            return refuse(NOBODY);
        }
        if (n < 0) {
            return refuse(BELOW);
        }
        if (n > PEOPLE) {
            return refuse(ROOM);
        }
        chances.spread(t, weekday);
        return chances.moreThan(n);
    }

    public int least(int t, int share) {
        if (noTeam(t)) {
            return refuse(NOBODY);
        }
        if (share < 0) {
            return refuse(BELOW);
        }
        if (share > SHARE_MOST) {
            return refuse(ROOM);
        }
        return chances.leastDesks(t, share);
    }

    public int grow(int t, int quarter, int v) {
        if (noTeam(t) || noQuarter(quarter)) {
            return refuse(NOBODY);
        }
        if (v < MISSING) {
            return refuse(BELOW);
        }
        if (v > GROWTH_MOST) {
            return refuse(ROOM);
        }
        house.growth[t][quarter] = v;
        return 1;
    }

    public int sizeIn(int t, int quarter) {
        if (noTeam(t) || noQuarter(quarter)) {
            return refuse(NOBODY);
        }
        return house.foretold(t, quarter);
    }

    public int kept(int quarter, int what) {
        if (noQuarter(quarter)) {
            return refuse(NOBODY);
        }
        if (what < 0 || what > 1) {
            return refuse(OTHER);
        }
        leases.search(quarter);
        return what == 0 ? leases.keptSet : leases.keptPrice;
    }

    public int bill(int t) {
        if (noTeam(t)) {
            return refuse(NOBODY);
        }
        return house.teams[t][PLACE] == NONE ? 0 : house.shareOf(t);
    }

    public int turn(int f) {
        if (noFloor(f)) {
            return refuse(NOBODY);
        }
        if ((house.floors[f][KINDS] & SUN) == 0) {
            return refuse(STATE);
        }
        int t = house.nextAtWindow(f);
        if (t == NONE) {
            return refuse(STATE);
        }
        house.teams[t][TURNS]++;
        return t;
    }

    public int teamOf(int t, int what) {
        if (noTeam(t)) {
            return refuse(NOBODY);
        }
        if (what < 0 || what >= TEAM_FACTS) {
            return refuse(OTHER);
        }
        return house.teams[t][what];
    }

    public int free(int f) {
        if (noFloor(f)) {
            return refuse(NOBODY);
        }
        return house.freeSeats(f, 0) + 10000;
    }

    public int count(int what) {
        if (what > 10 && what <= 10 + REFUSAL_KINDS) {
            return refusals[what - 10];
        }
        switch (what) {
            case 0:
                return house.teamCount;
            case 1:
                return house.teamCount - house.teamsWith(PLACE, NONE);
            case 2:
                return house.teamsWith(FIXED, 1);
            case 3:
                return house.twosIn(BARRED);
            case 4:
                return house.twosIn(NEAR);
            case 5:
                return house.teamCount - house.teamsWith(TARGET, NONE);
            case 6:
                return house.peopleTold();
            default:
                return NONE;
        }
    }

    private int refuse(int number) {
        if (number < 0 && -number <= REFUSAL_KINDS) {
            refusals[-number]++;
        }
        return number;
    }

    private boolean noTeam(int t) {
        return t < 0 || t >= house.teamCount;
    }

    private static boolean noFloor(int f) {
        return f < 0 || f >= FLOORS;
    }

    private static boolean noQuarter(int quarter) {
        return quarter < 0 || quarter >= QUARTERS;
    }

    /** The refusal of a best seating, or 0. */
    private int whyNoSeating(int floorSet, int teamSet, int what) {
        int allTeams = (1 << house.teamCount) - 1;
        if (floorSet == 0 || (floorSet & ~ALL_FLOORS) != 0) {
            return NOBODY;
        }
        if (teamSet == 0 || (teamSet & ~allTeams) != 0) {
            return NOBODY;
        }
        if (what < 0 || what > 1) {
            return OTHER;
        }
        if ((teamSet & house.fixedTeams()) != 0) {
            return STATE;
        }
        boolean tooMany = Integer.bitCount(floorSet) > OFFERED_MOST || Integer.bitCount(teamSet) > CHOSEN_MOST;
        return tooMany ? ROOM : 0;
    }

    /** The refusal of a row of moves, or 0. */
    private int whyNoMoving(int swing) {
        if ((swing & ~ALL_FLOORS) != 0) {
            return NOBODY;
        }
        int movers = house.targetedTeams();
        if ((movers & (house.fixedTeams() | house.standingTeams())) != 0) {
            return STATE;
        }
        int stops = swing | house.floorsOfMovers();
        boolean tooMany = Integer.bitCount(movers) > MOVERS_MOST || Integer.bitCount(stops) > STOPS_MOST;
        return tooMany ? ROOM : 0;
    }

    private static boolean holds(int set, int number) {
        return (set >> number & 1) == 1;
    }

    /** Puts a number into a row: what stood there. */
    private static int exchange(int[] row, int at, int v) {
        if (at < 0 || at >= row.length) {
            return NONE;
        }
        int was = row[at];
        row[at] = v;
        return was;
    }

    /** Writes the numbers of a set into a row, the least first: how many. */
    private static int list(int set, int[] into) {
        int n = 0;
        for (int number = 0; number < TEAMS && n < into.length; number++) {
            if (holds(set, number)) {
                into[n] = number;
                n++;
            }
        }
        return n;
    }

    /** What is told of floors, teams and twos, and what can be read off it at once. */
    private static final class House {
        final int[][] floors = new int[FLOORS][FLOOR_MOST.length];
        final int[][] teams = new int[TEAMS][TEAM_FACTS];
        final int[][] visits = new int[TEAMS][TEAMS];
        final int[][] barred = new int[TEAMS][TEAMS];
        final int[][] near = new int[TEAMS][TEAMS];
        final int[][] homes = new int[TEAMS][PEOPLE];
        final int[][] sures = new int[TEAMS][PEOPLE];
        final int[][] growth = new int[TEAMS][QUARTERS];
        int teamCount = 0;
        int liftTimes = 1;

        House() {
            for (int f = 0; f < FLOORS; f++) {
                System.arraycopy(FLOOR_FIRST, 0, floors[f], 0, FLOOR_FIRST.length);
            }
            for (int t = 0; t < TEAMS; t++) {
                teams[t][PLACE] = NONE;
                teams[t][TARGET] = NONE;
                Arrays.fill(growth[t], MISSING);
            }
        }

        int[][] tableOf(int what) {
            if (what == VISITS) {
                return visits;
            }
            return what == BARRED ? barred : near;
        }

        int teamsWith(int fact, int v) {
            int n = 0;
            for (int t = 0; t < teamCount; t++) {
                if (teams[t][fact] == v) {
                    n++;
                }
            }
            return n;
        }

        int twosIn(int what) {
            int[][] table = tableOf(what);
            int n = 0;
            for (int a = 0; a < teamCount; a++) {
                for (int b = 0; b < a; b++) {
                    n += table[a][b];
                }
            }
            return n;
        }

        int peopleTold() {
            int n = 0;
            for (int t = 0; t < teamCount; t++) {
                n += teams[t][TOLD];
            }
            return n;
        }

        int fixedTeams() {
            int set = 0;
            for (int t = 0; t < teamCount; t++) {
                set |= teams[t][FIXED] << t;
            }
            return set;
        }

        int standingTeams() {
            int set = 0;
            for (int t = 0; t < teamCount; t++) {
                set |= teams[t][PLACE] == NONE ? 1 << t : 0;
            }
            return set;
        }

        int targetedTeams() {
            int set = 0;
            for (int t = 0; t < teamCount; t++) {
                set |= teams[t][TARGET] == NONE ? 0 : 1 << t;
            }
            return set;
        }

        /** The floors on which teams with targets sit, and their targets. */
        int floorsOfMovers() {
            int set = 0;
            for (int t = 0; t < teamCount; t++) {
                if (teams[t][TARGET] != NONE && teams[t][PLACE] != NONE) {
                    set |= 1 << teams[t][TARGET] | 1 << teams[t][PLACE];
                }
            }
            return set;
        }

        /** The row of moves ends with all on their targets, whichever way it takes. */
        void takeTargets() {
            for (int t = 0; t < teamCount; t++) {
                if (teams[t][TARGET] != NONE) {
                    teams[t][PLACE] = teams[t][TARGET];
                    teams[t][TARGET] = NONE;
                }
            }
        }

        /** Whether a team sits and is none of those left out. */
        boolean stays(int t, int without) {
            return teams[t][PLACE] != NONE && !holds(without, t);
        }

        int freeSeats(int f, int without) {
            int seats = floors[f][SEATS];
            for (int t = 0; t < teamCount; t++) {
                if (teams[t][PLACE] == f && !holds(without, t)) {
                    seats -= teams[t][SIZE];
                }
            }
            return seats;
        }

        boolean suits(int f, int t) {
            return (teams[t][NEEDS] & ~floors[f][KINDS]) == 0;
        }

        /** Whether two teams may sit so. */
        boolean agree(int a, int onA, int b, int onB) {
            if (near[a][b] == 1 && Math.abs(onA - onB) > 1) {
                return false;
            }
            if (onA != onB) {
                return true;
            }
            return barred[a][b] == 0 && teams[a][LOUD] <= teams[b][NOISE] && teams[b][LOUD] <= teams[a][NOISE];
        }

        int walkBetween(int a, int onA, int b, int onB) {
            return visits[a][b] * Math.abs(onA - onB);
        }

        boolean isFit(int without) {
            for (int f = 0; f < FLOORS; f++) {
                if (freeSeats(f, without) < 0) {
                    return false;
                }
            }
            for (int t = 0; t < teamCount; t++) {
                if (stays(t, without) && (!suits(teams[t][PLACE], t) || !agreesWithEarlier(t, without))) {
                    return false;
                }
            }
            return true;
        }

        private boolean agreesWithEarlier(int t, int without) {
            for (int u = 0; u < t; u++) {
                if (stays(u, without) && !agree(t, teams[t][PLACE], u, teams[u][PLACE])) {
                    return false;
                }
            }
            return true;
        }

        /** What is walked by those that stay, before the lift counts. */
        int walk(int without) {
            int sum = 0;
            for (int a = 0; a < teamCount; a++) {
                for (int b = 0; b < a && stays(a, without); b++) {
                    if (stays(b, without)) {
                        sum += walkBetween(a, teams[a][PLACE], b, teams[b][PLACE]);
                    }
                }
            }
            return sum;
        }

        int foretold(int t, int quarter) {
            for (int q = quarter; q >= 0; q--) {
                if (growth[t][q] != MISSING) {
                    return growth[t][q];
                }
            }
            return teams[t][SIZE];
        }

        /** What a team that sits pays of its floor's bill. */
        int shareOf(int t) {
            int f = teams[t][PLACE];
            int price = floors[f][SEATS] * floors[f][PRICE];
            int all = floors[f][SEATS] - freeSeats(f, 0);
            if (all < 1) {
                return 0;
            }
            int restOfT = price * teams[t][SIZE] % all;
            int coins = price;
            int ahead = 0;
            for (int u = 0; u < teamCount; u++) {
                if (teams[u][PLACE] == f) {
                    coins -= price * teams[u][SIZE] / all;
                    int rest = price * teams[u][SIZE] % all;
                    ahead += rest > restOfT || (rest == restOfT && u < t) ? 1 : 0;
                }
            }
            return price * teams[t][SIZE] / all + (ahead < coins ? 1 : 0);
        }

        /** The team on a floor with the fewest turns by size, or none. */
        int nextAtWindow(int f) {
            int next = NONE;
            for (int t = 0; t < teamCount; t++) {
                if (teams[t][PLACE] == f && (next == NONE || hadLess(t, next))) {
                    next = t;
                }
            }
            return next;
        }

        private boolean hadLess(int a, int b) {
            return teams[a][TURNS] * teams[b][SIZE] < teams[b][TURNS] * teams[a][SIZE];
        }
    }

    /** The best seating of chosen teams on offered floors. */
    private static final class Seating {
        private final House house;
        private final int[] chosen = new int[CHOSEN_MOST];
        private final int[] offered = new int[OFFERED_MOST];
        private final int[] spare = new int[OFFERED_MOST];
        private final int[][] walkToStaying = new int[CHOSEN_MOST][OFFERED_MOST];
        private final int[] tried = new int[CHOSEN_MOST];
        private final int[] bestPlaces = new int[CHOSEN_MOST];
        private int chosenCount = 0;
        private int offeredCount = 0;
        boolean found = false;
        int bestWalk = 0;
        int bestChanges = 0;

        Seating(House house) {
            this.house = house;
        }

        void search(int floorSet, int teamSet) {
            found = false;
            chosenCount = list(teamSet, chosen);
            offeredCount = list(floorSet, offered);
            if (!house.isFit(teamSet)) {
                return;
            }
            for (int o = 0; o < offeredCount; o++) {
                spare[o] = house.freeSeats(offered[o], teamSet);
                for (int c = 0; c < chosenCount; c++) {
                    walkToStaying[c][o] = walkAmongStaying(chosen[c], offered[o], teamSet);
                }
            }
            placeFrom(0, house.walk(teamSet), 0);
        }

        int bestFloorOf(int t) {
            for (int c = 0; c < chosenCount; c++) {
                if (chosen[c] == t) {
                    return bestPlaces[c];
                }
            }
            return NONE;
        }

        void takeBest() {
            for (int c = 0; c < chosenCount; c++) {
                house.teams[chosen[c]][PLACE] = bestPlaces[c];
            }
        }

        /** What a team on a floor adds to the walk with those that stay; none if it can't be there beside them. */
        private int walkAmongStaying(int t, int f, int teamSet) {
            if (!house.suits(f, t)) {
                return NONE;
            }
            int sum = 0;
            for (int u = 0; u < house.teamCount; u++) {
                if (house.stays(u, teamSet)) {
                    int onU = house.teams[u][PLACE];
                    if (!house.agree(t, f, u, onU)) {
                        return NONE;
                    }
                    sum += house.walkBetween(t, f, u, onU);
                }
            }
            return sum;
        }

        /** What a chosen team on a floor adds to the walk with all placed so far; none if it can't be there. */
        private int walkAmongPlaced(int c, int o) {
            int sum = walkToStaying[c][o];
            for (int e = 0; e < c && sum != NONE; e++) {
                if (house.agree(chosen[c], offered[o], chosen[e], tried[e])) {
                    sum += house.walkBetween(chosen[c], offered[o], chosen[e], tried[e]);
                } else {
                    sum = NONE;
                }
            }
            return sum;
        }

        /** Goes through the seatings in the document's order, so that of equal ones the first found is kept. */
        private void placeFrom(int c, int walk, int changes) {
            if (found && !isBetter(walk, changes)) {
                return;
            }
            if (c >= chosenCount) {
                found = true;
                bestWalk = walk;
                bestChanges = changes;
                System.arraycopy(tried, 0, bestPlaces, 0, CHOSEN_MOST);
                return;
            }
            int[] team = house.teams[chosen[c]];
            for (int o = 0; o < offeredCount; o++) {
                int more = spare[o] < team[SIZE] ? NONE : walkAmongPlaced(c, o);
                if (more != NONE) {
                    tried[c] = offered[o];
                    spare[o] -= team[SIZE];
                    placeFrom(c + 1, walk + more, changes + (team[PLACE] == offered[o] ? 0 : 1));
                    spare[o] += team[SIZE];
                }
            }
        }

        private boolean isBetter(int walk, int changes) {
            return walk < bestWalk || (walk == bestWalk && changes < bestChanges);
        }
    }

    /**
     * The fewest weekends. A state is a place for each team with a target, written as a number whose digits
     * (of base five) are places in the row of floors; the search goes back from the targets, so that each
     * state knows how many moves are left and the first row can be followed from where the teams sit.
     */
    private static final class Moving {
        private static final int[] POWERS = {1, 5, 25, 125, 625, 3125, 15625};
        private static final int UNKNOWN = -1;

        private final House house;
        private final int[] movers = new int[MOVERS_MOST];
        private final int[] stops = new int[STOPS_MOST];
        private final int[] seatsForMovers = new int[STOPS_MOST];
        private final int[] digits = new int[MOVERS_MOST];
        private final int[] spare = new int[STOPS_MOST];
        // Grown when more teams have targets than ever before: most objects never need the greatest rows.
        private int[] movesLeft = new int[1];
        private int[] queue = new int[1];
        private int queued = 0;
        private int moverCount = 0;
        private int stopCount = 0;
        int movedTeam = NONE;
        int movedTo = NONE;

        Moving(House house) {
            this.house = house;
        }

        /** The least number of moves, or none. */
        int search(int swing) {
            prepare(swing);
            int states = POWERS[moverCount];
            int start = stateBy(PLACE);
            queued = 0;
            enqueue(stateBy(TARGET), 0);
            for (int head = 0; head < states && head < queued && movesLeft[start] == UNKNOWN; head++) {
                enqueueBefore(queue[head]);
            }
            return movesLeft[start] == UNKNOWN ? NONE : movesLeft[start];
        }

        /** Follows the first row of moves to its i-th one, which it keeps; search() has found that there is one. */
        void followTo(int i) {
            int state = stateBy(PLACE);
            for (int step = 0; step <= i && movesLeft[state] > 0; step++) {
                state = afterFirstMove(state);
            }
        }

        private void prepare(int swing) {
            int moverSet = house.targetedTeams();
            moverCount = list(moverSet, movers);
            stopCount = list(swing | house.floorsOfMovers(), stops);
            for (int s = 0; s < stopCount; s++) {
                seatsForMovers[s] = house.freeSeats(stops[s], moverSet);
            }
            int states = POWERS[moverCount];
            if (movesLeft.length < states) {
                movesLeft = new int[states];
                queue = new int[states];
            }
            Arrays.fill(movesLeft, 0, states, UNKNOWN);
        }

        /** The state in which each team sits where that fact of it says. */
        private int stateBy(int fact) {
            int state = 0;
            for (int m = 0; m < moverCount; m++) {
                for (int s = 0; s < stopCount; s++) {
                    if (stops[s] == house.teams[movers[m]][fact]) {
                        state += s * POWERS[m];
                    }
                }
            }
            return state;
        }

        /** Reads a state's digits and what is free on each floor in it. */
        private void open(int state) {
            System.arraycopy(seatsForMovers, 0, spare, 0, STOPS_MOST);
            int rest = state;
            for (int m = 0; m < moverCount; m++) {
                digits[m] = rest % STOPS_MOST;
                rest /= STOPS_MOST;
                spare[digits[m]] -= house.teams[movers[m]][SIZE];
            }
        }

        private void enqueue(int state, int left) {
            if (movesLeft[state] == UNKNOWN && queued < queue.length) {
                movesLeft[state] = left;
                queue[queued] = state;
                queued++;
            }
        }

        /** The last move had free seats where it went if that floor is not overfull behind it. */
        private void enqueueBefore(int state) {
            open(state);
            int left = movesLeft[state] + 1;
            for (int m = 0; m < moverCount; m++) {
                if (spare[digits[m]] >= 0) {
                    int others = state - digits[m] * POWERS[m];
                    for (int s = 0; s < stopCount; s++) {
                        enqueue(others + s * POWERS[m], left);
                    }
                }
            }
        }

        private int afterFirstMove(int state) {
            open(state);
            for (int m = 0; m < moverCount; m++) {
                for (int s = 0; s < stopCount; s++) {
                    int next = state + (s - digits[m]) * POWERS[m];
                    boolean goesOn = movesLeft[next] == movesLeft[state] - 1;
                    if (goesOn && spare[s] >= house.teams[movers[m]][SIZE]) {
                        movedTeam = movers[m];
                        movedTo = stops[s];
                        return next;
                    }
                }
            }
            return state;
        }
    }

    /** Who comes on which weekday, by days at home and by chance. */
    private static final class Chances {
        private static final long WHOLE = 1L << 30;

        private final House house;
        private final long[] parts = new long[PEOPLE + 1];

        Chances(House house) {
            this.house = house;
        }

        int mostComing(int t) {
            int most = 0;
            for (int weekday = 0; weekday < WEEKDAYS; weekday++) {
                int n = 0;
                for (int p = 0; p < house.teams[t][TOLD]; p++) {
                    n += holds(house.homes[t][p], weekday) ? 0 : 1;
                }
                most = Math.max(most, n);
            }
            return most;
        }

        /** Fills the row: at j how many of the whole that j people come. */
        void spread(int t, int weekday) {
            Arrays.fill(parts, 0L);
            parts[0] = WHOLE;
            for (int p = 0; p < house.teams[t][TOLD]; p++) {
                if (!holds(house.homes[t][p], weekday)) {
                    addPerson(house.sures[t][p]);
                }
            }
        }

        /** From the greatest j down, so that what was at j - 1 still stands. */
        private void addPerson(int sure) {
            for (int j = PEOPLE; j >= 0; j--) {
                long fewer = j > 0 ? parts[j - 1] * sure : 0L;
                parts[j] = (parts[j] * (SURE_MOST - sure) + fewer) / SURE_MOST;
            }
        }

        int moreThan(int n) {
            long sum = 0L;
            for (int j = n + 1; j <= PEOPLE; j++) {
                sum += parts[j];
            }
            return (int) sum;
        }

        int leastDesks(int t, int share) {
            int most = 0;
            for (int weekday = 0; weekday < WEEKDAYS; weekday++) {
                spread(t, weekday);
                most = Math.max(most, leastOfSpread(share));
            }
            return most;
        }

        private int leastOfSpread(int share) {
            int n = 0;
            while (n < PEOPLE && moreThan(n) * 1000L > share * WHOLE) {
                n++;
            }
            return n;
        }
    }

    /** The floors whose leases are kept in a quarter. */
    private static final class Leases {
        private final House house;
        private final int[] seatsFrom = new int[FLOORS + 1];
        private int heldSet = 0;
        private int needed = 0;
        int keptSet = NONE;
        int keptPrice = NONE;

        Leases(House house) {
            this.house = house;
        }

        void search(int quarter) {
            keptSet = NONE;
            keptPrice = NONE;
            needed = seatsNeeded(quarter);
            heldSet = heldFloors(quarter);
            for (int f = FLOORS - 1; f >= 0; f--) {
                seatsFrom[f] = seatsFrom[f + 1] + (holds(heldSet, f) ? house.floors[f][SEATS] : 0);
            }
            addFrom(0, 0, 0, 0);
        }

        private int seatsNeeded(int quarter) {
            int sum = 0;
            for (int t = 0; t < house.teamCount; t++) {
                sum += house.foretold(t, quarter);
            }
            return sum;
        }

        private int heldFloors(int quarter) {
            int set = 0;
            for (int f = 0; f < FLOORS; f++) {
                set |= house.floors[f][LEASE] >= quarter ? 1 << f : 0;
            }
            return set;
        }

        /** One floor more than are needed is never better: it costs no less, and there are more of them. */
        private void addFrom(int f, int set, int seats, int price) {
            if (seats >= needed) {
                keepIfBetter(set, price);
                return;
            }
            boolean tooDear = keptSet != NONE && price > keptPrice;
            if (f >= FLOORS || tooDear || seats + seatsFrom[f] < needed) {
                return;
            }
            if (holds(heldSet, f)) {
                int[] row = house.floors[f];
                addFrom(f + 1, set | 1 << f, seats + row[SEATS], price + row[SEATS] * row[PRICE]);
            }
            addFrom(f + 1, set, seats, price);
        }

        private void keepIfBetter(int set, int price) {
            if (keptSet == NONE || price < keptPrice || (price == keptPrice && isSmaller(set))) {
                keptSet = set;
                keptPrice = price;
            }
        }

        private boolean isSmaller(int set) {
            int more = Integer.bitCount(set) - Integer.bitCount(keptSet);
            return more < 0 || (more == 0 && set < keptSet);
        }
    }
}
