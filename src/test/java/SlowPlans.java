import java.math.BigInteger;
import java.util.ArrayList;
import java.util.HashMap;
import java.util.List;
import java.util.Map;
import java.util.TreeMap;
import java.util.TreeSet;

/** The document read a second time, in the slowest and plainest way, to be compared with FloorPlans. */
final class SlowPlans {
    private static final class Refusal extends RuntimeException {
        private static final long serialVersionUID = 1L;
        final int number;

        Refusal(int number) {
            super(null, null, false, false);
            this.number = number;
        }
    }

    private interface Call {
        int answer();
    }

    private static final class Person {
        int home;
        int sure;
    }

    private static final class Team {
        int size;
        int needs;
        int loud;
        int noise;
        Integer floor;
        boolean fixed;
        Integer target;
        int turns;
        final List<Person> people = new ArrayList<>();
        final Map<Integer, Integer> growth = new HashMap<>();
    }

    private static final class Floor {
        int seats = 40;
        int kinds = 0;
        int price = 10;
        int lease = 19;
    }

    private final List<Floor> floors = new ArrayList<>();
    private final List<Team> teams = new ArrayList<>();
    private final Map<String, Integer> twos = new HashMap<>();
    private final Map<Integer, Integer> refused = new HashMap<>();
    private int lift = 1;

    SlowPlans() {
        for (int f = 0; f < 11; f++) {
            floors.add(new Floor());
        }
    }

    private int asked(Call call) {
        try {
            return call.answer();
        } catch (Refusal r) {
            refused.merge(r.number, 1, Integer::sum);
            return r.number;
        }
    }

    private static void refuseIf(boolean wrong, int number) {
        if (wrong) {
            throw new Refusal(number);
        }
    }

    private void needTeam(int t) {
        refuseIf(t < 0 || t >= teams.size(), -1);
    }

    private void needFloor(int f) {
        refuseIf(f < 0 || f > 10, -1);
    }

    private void needQuarter(int q) {
        refuseIf(q < 0 || q > 19, -1);
    }

    private static void needWithin(int v, int least, int most) {
        refuseIf(v < least, -4);
        refuseIf(v > most, -6);
    }

    private int told(int what, int a, int b) {
        return twos.getOrDefault(what + " " + Math.min(a, b) + " " + Math.max(a, b), 0);
    }

    int floor(int f, int what, int v) {
        return asked(() -> {
            needFloor(f);
            refuseIf(what < 0 || what > 3, -2);
            needWithin(v, 0, what == 0 ? 300 : what == 1 ? 7 : what == 2 ? 999 : 19);
            Floor floor = floors.get(f);
            int was;
            if (what == 0) {
                was = floor.seats;
                floor.seats = v;
            } else if (what == 1) {
                was = floor.kinds;
                floor.kinds = v;
            } else if (what == 2) {
                was = floor.price;
                floor.price = v;
            } else {
                was = floor.lease;
                floor.lease = v;
            }
            return was;
        });
    }

    int team(int size, int needs, int loud, int noise) {
        return asked(() -> {
            refuseIf(size < 1 || needs < 0 || loud < 0 || noise < 0, -4);
            refuseIf(size > 60 || needs > 7 || loud > 9 || noise > 9 || teams.size() == 16, -6);
            Team team = new Team();
            team.size = size;
            team.needs = needs;
            team.loud = loud;
            team.noise = noise;
            teams.add(team);
            return teams.size() - 1;
        });
    }

    int size(int t, int v) {
        return asked(() -> {
            needTeam(t);
            needWithin(v, 1, 60);
            int was = teams.get(t).size;
            teams.get(t).size = v;
            return was;
        });
    }

    private static int orNone(Integer f) {
        return f == null ? -9 : f;
    }

    int sit(int t, int f) {
        return asked(() -> {
            needTeam(t);
            refuseIf(f != -9 && (f < 0 || f > 10), -1);
            Team team = teams.get(t);
            refuseIf(team.fixed, -3);
            int was = orNone(team.floor);
            team.floor = f == -9 ? null : Integer.valueOf(f);
            return was;
        });
    }

    int fix(int t, boolean on) {
        return asked(() -> {
            needTeam(t);
            if (teams.get(t).fixed == on) {
                return 0;
            }
            teams.get(t).fixed = on;
            return 1;
        });
    }

    int two(int a, int b, int what, int v) {
        return asked(() -> {
            needTeam(a);
            needTeam(b);
            refuseIf(a == b, -1);
            refuseIf(what < 0 || what > 2, -2);
            needWithin(v, 0, what == 0 ? 99 : 1);
            int was = told(what, a, b);
            twos.put(what + " " + Math.min(a, b) + " " + Math.max(a, b), v);
            return was;
        });
    }

    private Map<Integer, Integer> seatingNow() {
        Map<Integer, Integer> seating = new TreeMap<>();
        for (int t = 0; t < teams.size(); t++) {
            if (teams.get(t).floor != null) {
                seating.put(t, teams.get(t).floor);
            }
        }
        return seating;
    }

    private boolean isFit(Map<Integer, Integer> seating) {
        for (int f = 0; f < 11; f++) {
            int sum = 0;
            for (int t : seating.keySet()) {
                if (seating.get(t) == f) {
                    sum += teams.get(t).size;
                    if ((floors.get(f).kinds & teams.get(t).needs) != teams.get(t).needs) {
                        return false;
                    }
                }
            }
            if (sum > floors.get(f).seats) {
                return false;
            }
        }
        for (int a : seating.keySet()) {
            for (int b : seating.keySet()) {
                int apart = Math.abs(seating.get(a) - seating.get(b));
                if (a != b && apart == 0 && (told(1, a, b) == 1 || teams.get(a).loud > teams.get(b).noise)) {
                    return false;
                }
                if (a != b && apart > 1 && told(2, a, b) == 1) {
                    return false;
                }
            }
        }
        return true;
    }

    private int walkedIn(Map<Integer, Integer> seating) {
        int sum = 0;
        for (int a : seating.keySet()) {
            for (int b : seating.keySet()) {
                if (a < b) {
                    sum += told(0, a, b) * Math.abs(seating.get(a) - seating.get(b)) * lift;
                }
            }
        }
        return sum;
    }

    int fit() {
        return isFit(seatingNow()) ? 1 : 0;
    }

    int lift(int v) {
        return asked(() -> {
            needWithin(v, 1, 9);
            int was = lift;
            lift = v;
            return was;
        });
    }

    int walked() {
        return walkedIn(seatingNow());
    }

    private static List<Integer> members(int set) {
        List<Integer> list = new ArrayList<>();
        for (int i = 0; i < 32; i++) {
            if ((set & 1 << i) != 0) {
                list.add(i);
            }
        }
        return list;
    }

    private void needSets(int floorSet, int teamSet, int what) {
        List<Integer> on = members(floorSet);
        List<Integer> of = members(teamSet);
        refuseIf(on.isEmpty() || of.isEmpty(), -1);
        refuseIf(on.get(on.size() - 1) > 10 || of.get(of.size() - 1) >= teams.size(), -1);
        refuseIf(what != 0 && what != 1, -2);
        for (int t : of) {
            refuseIf(teams.get(t).fixed, -3);
        }
        refuseIf(on.size() > 4 || of.size() > 7, -6);
    }

    private int changesIn(Map<Integer, Integer> seating) {
        int n = 0;
        for (int t : seating.keySet()) {
            if (orNone(teams.get(t).floor) != seating.get(t)) {
                n++;
            }
        }
        return n;
    }

    /** Every seating is made and looked at whole; the last team's floor changes first. */
    private Map<Integer, Integer> bestSeating(int floorSet, int teamSet) {
        List<Integer> on = members(floorSet);
        List<Integer> of = members(teamSet);
        int all = 1;
        for (int i = 0; i < of.size(); i++) {
            all *= on.size();
        }
        Map<Integer, Integer> best = null;
        int bestWalk = 0;
        int bestChanges = 0;
        for (int number = 0; number < all; number++) {
            Map<Integer, Integer> seating = seatingNow();
            int rest = number;
            for (int i = of.size() - 1; i >= 0; i--) {
                seating.put(of.get(i), on.get(rest % on.size()));
                rest /= on.size();
            }
            int walk = walkedIn(seating);
            int changes = changesIn(seating);
            boolean better = best == null || walk < bestWalk || walk == bestWalk && changes < bestChanges;
            if (better && isFit(seating)) {
                best = seating;
                bestWalk = walk;
                bestChanges = changes;
            }
        }
        return best;
    }

    int best(int floorSet, int teamSet, int what) {
        return asked(() -> {
            needSets(floorSet, teamSet, what);
            Map<Integer, Integer> best = bestSeating(floorSet, teamSet);
            if (best == null) {
                return -9;
            }
            return what == 0 ? walkedIn(best) : changesIn(best);
        });
    }

    int bestOf(int floorSet, int teamSet, int t) {
        return asked(() -> {
            needSets(floorSet, teamSet, 0);
            refuseIf(!members(teamSet).contains(t), -1);
            Map<Integer, Integer> best = bestSeating(floorSet, teamSet);
            return best == null ? -9 : best.get(t);
        });
    }

    int seat(int floorSet, int teamSet) {
        return asked(() -> {
            needSets(floorSet, teamSet, 0);
            Map<Integer, Integer> best = bestSeating(floorSet, teamSet);
            refuseIf(best == null, -3);
            int changes = changesIn(best);
            for (int t : best.keySet()) {
                teams.get(t).floor = best.get(t);
            }
            return changes;
        });
    }

    int target(int t, int f) {
        return asked(() -> {
            needTeam(t);
            refuseIf(f != -9 && (f < 0 || f > 10), -1);
            int was = orNone(teams.get(t).target);
            teams.get(t).target = f == -9 ? null : Integer.valueOf(f);
            return was;
        });
    }

    private List<Integer> movers() {
        List<Integer> list = new ArrayList<>();
        for (int t = 0; t < teams.size(); t++) {
            if (teams.get(t).target != null) {
                list.add(t);
            }
        }
        return list;
    }

    private TreeSet<Integer> stops(int swing) {
        TreeSet<Integer> set = new TreeSet<>(members(swing));
        for (int t : movers()) {
            set.add(teams.get(t).target);
            set.add(teams.get(t).floor);
        }
        return set;
    }

    private void needMoves(int swing) {
        refuseIf(swing < 0 || swing > 2047, -1);
        for (int t : movers()) {
            refuseIf(teams.get(t).fixed || teams.get(t).floor == null, -3);
        }
        refuseIf(movers().size() > 6 || stops(swing).size() > 5, -6);
    }

    private int freeIn(int f, List<Integer> places) {
        int seats = floors.get(f).seats;
        List<Integer> movers = movers();
        for (int t = 0; t < teams.size(); t++) {
            int i = movers.indexOf(t);
            int on = i < 0 ? orNone(teams.get(t).floor) : places.get(i);
            if (on == f) {
                seats -= teams.get(t).size;
            }
        }
        return seats;
    }

    /** The states that one move makes of one: {team, floor} by which, the least team and floor first. */
    private Map<List<Integer>, List<Integer>> movesFrom(List<Integer> places, TreeSet<Integer> stops) {
        Map<List<Integer>, List<Integer>> moves = new java.util.LinkedHashMap<>();
        List<Integer> movers = movers();
        for (int i = 0; i < movers.size(); i++) {
            for (int f : stops) {
                if (f != places.get(i) && freeIn(f, places) >= teams.get(movers.get(i)).size) {
                    List<Integer> next = new ArrayList<>(places);
                    next.set(i, f);
                    moves.put(next, List.of(movers.get(i), f));
                }
            }
        }
        return moves;
    }

    /** Forwards, level by level, from a state to the targets; null if they are not reached. */
    private Integer fewestFrom(List<Integer> from, List<Integer> to, TreeSet<Integer> stops) {
        java.util.Set<List<Integer>> seen = new java.util.HashSet<>();
        List<List<Integer>> level = List.of(from);
        seen.add(from);
        for (int n = 0; !level.isEmpty(); n++) {
            if (level.contains(to)) {
                return n;
            }
            List<List<Integer>> next = new ArrayList<>();
            for (List<Integer> places : level) {
                for (List<Integer> after : movesFrom(places, stops).keySet()) {
                    if (seen.add(after)) {
                        next.add(after);
                    }
                }
            }
            level = next;
        }
        return null;
    }

    /** The row of moves, each tried anew by whether the fewest can still be kept; null if there is none. */
    private List<List<Integer>> rowOfMoves(int swing) {
        List<Integer> places = new ArrayList<>();
        List<Integer> to = new ArrayList<>();
        for (int t : movers()) {
            places.add(teams.get(t).floor);
            to.add(teams.get(t).target);
        }
        TreeSet<Integer> stops = stops(swing);
        Integer fewest = fewestFrom(places, to, stops);
        if (fewest == null) {
            return null;
        }
        List<List<Integer>> row = new ArrayList<>();
        for (int left = fewest; left > 0; left--) {
            Map<List<Integer>, List<Integer>> moves = movesFrom(places, stops);
            for (List<Integer> next : moves.keySet()) {
                Integer still = fewestFrom(next, to, stops);
                if (still != null && still == left - 1) {
                    row.add(moves.get(next));
                    places = next;
                    break;
                }
            }
        }
        return row;
    }

    int weekends(int swing) {
        return asked(() -> {
            needMoves(swing);
            List<Integer> from = new ArrayList<>();
            List<Integer> to = new ArrayList<>();
            for (int t : movers()) {
                from.add(teams.get(t).floor);
                to.add(teams.get(t).target);
            }
            Integer fewest = fewestFrom(from, to, stops(swing));
            return fewest == null ? -9 : fewest;
        });
    }

    int move(int swing, int i, int what) {
        return asked(() -> {
            needMoves(swing);
            refuseIf(what != 0 && what != 1, -2);
            List<List<Integer>> row = rowOfMoves(swing);
            return row == null || i < 0 || i >= row.size() ? -9 : row.get(i).get(what);
        });
    }

    int go(int swing) {
        return asked(() -> {
            needMoves(swing);
            List<List<Integer>> row = rowOfMoves(swing);
            refuseIf(row == null, -3);
            for (List<Integer> move : row) {
                teams.get(move.get(0)).floor = move.get(1);
            }
            for (Team team : teams) {
                team.target = null;
            }
            return row.size();
        });
    }

    int person(int t, int home, int sure) {
        return asked(() -> {
            needTeam(t);
            refuseIf(home < 0 || sure < 0, -4);
            refuseIf(home > 31 || sure > 64 || teams.get(t).people.size() == 20, -6);
            Person person = new Person();
            person.home = home;
            person.sure = sure;
            teams.get(t).people.add(person);
            return teams.get(t).people.size() - 1;
        });
    }

    private static boolean mayCome(Person person, int weekday) {
        return (person.home & 1 << weekday) == 0;
    }

    int desks(int t) {
        return asked(() -> {
            needTeam(t);
            long most = 0;
            for (int d = 0; d < 5; d++) {
                int weekday = d;
                most = Math.max(most, teams.get(t).people.stream().filter(p -> mayCome(p, weekday)).count());
            }
            return (int) most;
        });
    }

    private BigInteger lackBy(int t, int n, int weekday) {
        List<BigInteger> row = new ArrayList<>();
        row.add(BigInteger.ONE.shiftLeft(30));
        for (Person person : teams.get(t).people) {
            if (mayCome(person, weekday)) {
                List<BigInteger> next = new ArrayList<>();
                for (int j = 0; j <= row.size(); j++) {
                    BigInteger was = j < row.size() ? row.get(j) : BigInteger.ZERO;
                    BigInteger fewer = j > 0 ? row.get(j - 1) : BigInteger.ZERO;
                    next.add(was.multiply(BigInteger.valueOf(64 - person.sure))
                        .add(fewer.multiply(BigInteger.valueOf(person.sure))).divide(BigInteger.valueOf(64)));
                }
                row = next;
            }
        }
        BigInteger sum = BigInteger.ZERO;
        for (int j = n + 1; j < row.size(); j++) {
            sum = sum.add(row.get(j));
        }
        return sum;
    }

    int lack(int t, int n, int weekday) {
        return asked(() -> {
            needTeam(t);
            refuseIf(weekday < 0 || weekday > 4, -1);
            needWithin(n, 0, 20);
            return lackBy(t, n, weekday).intValueExact();
        });
    }

    int least(int t, int share) {
        return asked(() -> {
            needTeam(t);
            needWithin(share, 0, 1000);
            BigInteger most = BigInteger.valueOf(share).shiftLeft(30);
            for (int n = 0;; n++) {
                boolean enough = true;
                for (int d = 0; d < 5; d++) {
                    enough &= lackBy(t, n, d).multiply(BigInteger.valueOf(1000)).compareTo(most) <= 0;
                }
                if (enough) {
                    return n;
                }
            }
        });
    }

    int grow(int t, int quarter, int v) {
        return asked(() -> {
            needTeam(t);
            needQuarter(quarter);
            needWithin(v, -1, 200);
            if (v == -1) {
                teams.get(t).growth.remove(quarter);
            } else {
                teams.get(t).growth.put(quarter, v);
            }
            return 1;
        });
    }

    private int counts(Team team, int quarter) {
        if (team.growth.containsKey(quarter)) {
            return team.growth.get(quarter);
        }
        return quarter == 0 ? team.size : counts(team, quarter - 1);
    }

    int sizeIn(int t, int quarter) {
        return asked(() -> {
            needTeam(t);
            needQuarter(quarter);
            return counts(teams.get(t), quarter);
        });
    }

    int kept(int quarter, int what) {
        return asked(() -> {
            needQuarter(quarter);
            refuseIf(what != 0 && what != 1, -2);
            int needed = 0;
            for (Team team : teams) {
                needed += counts(team, quarter);
            }
            long best = Long.MAX_VALUE;
            for (int set = 0; set < 2048; set++) {
                int seats = 0;
                long price = 0;
                boolean held = true;
                for (int f : members(set)) {
                    seats += floors.get(f).seats;
                    price += (long) floors.get(f).seats * floors.get(f).price;
                    held &= quarter <= floors.get(f).lease;
                }
                if (held && seats >= needed) {
                    best = Math.min(best, price << 16 | (long) members(set).size() << 11 | set);
                }
            }
            if (best == Long.MAX_VALUE) {
                return -9;
            }
            return what == 0 ? (int) (best & 2047) : (int) (best >> 16);
        });
    }

    int bill(int t) {
        return asked(() -> {
            needTeam(t);
            Integer f = teams.get(t).floor;
            if (f == null) {
                return 0;
            }
            List<Integer> there = new ArrayList<>();
            int all = 0;
            for (int u = 0; u < teams.size(); u++) {
                if (f.equals(teams.get(u).floor)) {
                    there.add(u);
                    all += teams.get(u).size;
                }
            }
            int price = floors.get(f).seats * floors.get(f).price;
            Map<Integer, Integer> pays = new HashMap<>();
            Map<Integer, Integer> rests = new HashMap<>();
            int left = price;
            for (int u : there) {
                pays.put(u, price * teams.get(u).size / all);
                rests.put(u, price * teams.get(u).size % all);
                left -= pays.get(u);
            }
            there.sort((a, b) -> rests.get(a).equals(rests.get(b)) ? a - b : rests.get(b) - rests.get(a));
            for (int i = 0; i < left; i++) {
                pays.merge(there.get(i), 1, Integer::sum);
            }
            return pays.get(t);
        });
    }

    int turn(int f) {
        return asked(() -> {
            needFloor(f);
            refuseIf((floors.get(f).kinds & 2) == 0, -3);
            Team next = null;
            for (Team team : teams) {
                boolean there = team.floor != null && team.floor == f;
                if (there && (next == null || (long) team.turns * next.size < (long) next.turns * team.size)) {
                    next = team;
                }
            }
            refuseIf(next == null, -3);
            next.turns++;
            return teams.indexOf(next);
        });
    }

    int teamOf(int t, int what) {
        return asked(() -> {
            needTeam(t);
            Team team = teams.get(t);
            switch (what) {
                case 0: return team.size;
                case 1: return team.needs;
                case 2: return team.loud;
                case 3: return team.noise;
                case 4: return orNone(team.floor);
                case 5: return team.fixed ? 1 : 0;
                case 6: return orNone(team.target);
                case 7: return team.people.size();
                case 8: return team.turns;
                default: throw new Refusal(-2);
            }
        });
    }

    int free(int f) {
        return asked(() -> {
            needFloor(f);
            int seats = floors.get(f).seats;
            for (Team team : teams) {
                seats -= team.floor != null && team.floor == f ? team.size : 0;
            }
            return 10000 + seats;
        });
    }

    private int twosWith(int what) {
        int n = 0;
        for (int a = 0; a < teams.size(); a++) {
            for (int b = a + 1; b < teams.size(); b++) {
                n += told(what, a, b);
            }
        }
        return n;
    }

    int count(int what) {
        switch (what) {
            case 0: return teams.size();
            case 1: return seatingNow().size();
            case 2: return (int) teams.stream().filter(team -> team.fixed).count();
            case 3: return twosWith(1);
            case 4: return twosWith(2);
            case 5: return movers().size();
            case 6: return teams.stream().mapToInt(team -> team.people.size()).sum();
            case 11: case 12: case 13: case 14: case 15: case 16: return refused.getOrDefault(10 - what, 0);
            default: return -9;
        }
    }
}
