/** Promises 18 to 21: people, desks by days at home and desks by chance. */
final class DesksTest {
    private static final int WHOLE = 1 << 30;

    public static void main(String[] args) {
        Due due = new Due("DesksTest");
        person(due);
        desks(due);
        lackOfSurePeople(due);
        lackIsCut(due);
        lackByTheOrderOfPeople(due);
        lackOfTwenty(due);
        chancesOfTwenty(due);
        lackRefusals(due);
        least(due);
        leastRefusals(due);
        due.end();
    }

    private static FloorPlans withTeams(int n) {
        FloorPlans x = new FloorPlans();
        for (int t = 0; t < n; t++) {
            x.team(1, 0, 0, 0);
        }
        return x;
    }

    private static void person(Due due) {
        FloorPlans x = withTeams(2);
        for (int p = 0; p < 20; p++) {
            due.is("person " + p, x.person(1, 31 - p, 64 - p), p);
        }
        due.is("a twenty-first", x.person(1, 0, 64), -6);
        due.is("a twenty-first below: -4 first", x.person(1, 0, -1), -4);
        due.is("of another team", x.person(0, 31, 0), 0);
        due.is("person(2, 0, 0)", x.person(2, 0, 0), -1);
        due.is("person(-1, -1, 65): -1 first", x.person(-1, -1, 65), -1);
        due.is("person(0, -1, 0)", x.person(0, -1, 0), -4);
        due.is("person(0, 32, -1): -4 first", x.person(0, 32, -1), -4);
        due.is("person(0, 32, 0)", x.person(0, 32, 0), -6);
        due.is("person(0, 0, 65)", x.person(0, 0, 65), -6);
        due.refusals("person:", x, 2, 0, 0, 3, 3);
        due.is("told of 0", x.teamOf(0, 7), 1);
        due.is("told of 1", x.teamOf(1, 7), 20);
        due.is("told of all", x.count(6), 21);
    }

    private static void desks(Due due) {
        FloorPlans x = withTeams(2);
        due.is("desks(0) of nobody", x.desks(0), 0);
        x.person(0, 31, 64);
        due.is("desks(0) of one always at home", x.desks(0), 0);
        x.person(0, 15, 64);
        due.is("desks(0): on the last weekday", x.desks(0), 1);
        x.person(0, 30, 64);
        due.is("desks(0): two, never together", x.desks(0), 1);
        x.person(0, 14, 1);
        due.is("desks(0): one comes on both days", x.desks(0), 2);
        x.person(0, 0, 0);
        due.is("desks(0): how sure one is counts not", x.desks(0), 3);
        due.is("desks(1)", x.desks(1), 0);
        due.is("desks(2)", x.desks(2), -1);
        due.is("desks(-1)", x.desks(-1), -1);
        due.refusals("desks:", x, 2, 0, 0, 0, 0);
    }

    private static void lackOfSurePeople(Due due) {
        FloorPlans x = withTeams(1);
        due.is("lack of nobody", x.lack(0, 0, 0), 0);
        x.person(0, 1, 64);
        x.person(0, 16, 64);
        x.person(0, 0, 64);
        due.is("lack(0, 2, 2)", x.lack(0, 2, 2), WHOLE);
        due.is("lack(0, 3, 2)", x.lack(0, 3, 2), 0);
        due.is("lack(0, 1, 0)", x.lack(0, 1, 0), WHOLE);
        due.is("lack(0, 2, 0)", x.lack(0, 2, 0), 0);
        due.is("lack(0, 2, 4)", x.lack(0, 2, 4), 0);
        due.is("lack(0, 20, 2)", x.lack(0, 20, 2), 0);
        x.person(0, 0, 0);
        due.is("one who never comes", x.lack(0, 3, 2), 0);
    }

    /** Six people of 1 in 64: the sixth makes parts of less than one coin, which are cut. */
    private static void lackIsCut(Due due) {
        FloorPlans x = withTeams(1);
        for (int p = 0; p < 6; p++) {
            x.person(0, 0, 1);
        }
        due.is("lack(0, 5, 3)", x.lack(0, 5, 3), 0);
        due.is("lack(0, 4, 3)", x.lack(0, 4, 3), 5);
        due.is("lack(0, 3, 3)", x.lack(0, 3, 3), 5 + 930);
        due.is("lack(0, 2, 3)", x.lack(0, 2, 3), 5 + 930 + 78139);
        due.is("lack(0, 1, 3)", x.lack(0, 1, 3), 5 + 930 + 78139 + 3692100);
        due.is("lack(0, 0, 3)", x.lack(0, 0, 3), 5 + 930 + 78139 + 3692100 + 93040925);
    }

    /** Eight people, of whom the row is worked out by hand in long numbers here, person by person. */
    private static void lackByTheOrderOfPeople(Due due) {
        int[] sure = {1, 63, 31, 7, 5, 3, 11, 13};
        FloorPlans x = withTeams(1);
        long[] row = new long[9];
        row[0] = WHOLE;
        for (int p = 0; p < sure.length; p++) {
            x.person(0, p == 3 ? 2 : 0, sure[p]);
            if (p != 3) {
                long[] next = new long[9];
                next[0] = row[0] * (64 - sure[p]) / 64;
                for (int j = 1; j <= 8; j++) {
                    next[j] = (row[j] * (64 - sure[p]) + row[j - 1] * sure[p]) / 64;
                }
                row = next;
            }
        }
        long more = 0;
        for (int n = 8; n >= 0; n--) {
            due.is("the order: lack(0, " + n + ", 1)", x.lack(0, n, 1), (int) more);
            more += row[n];
        }
    }

    private static void lackOfTwenty(Due due) {
        FloorPlans x = withTeams(1);
        for (int p = 0; p < 20; p++) {
            x.person(0, 0, 64);
        }
        due.is("lack(0, 19, 4)", x.lack(0, 19, 4), WHOLE);
        due.is("lack(0, 20, 4)", x.lack(0, 20, 4), 0);
        due.is("lack(0, 0, 0)", x.lack(0, 0, 0), WHOLE);
        due.is("least(0, 0)", x.least(0, 0), 20);
        due.is("least(0, 999)", x.least(0, 999), 20);
        due.is("least(0, 1000)", x.least(0, 1000), 0);
    }

    /** Twenty people of all kinds (always the same ones), every part compared with SlowPlans'. */
    private static void chancesOfTwenty(Due due) {
        java.util.Random chance = new java.util.Random(20);
        for (int run = 0; run < 40; run++) {
            FloorPlans x = withTeams(1);
            SlowPlans slow = new SlowPlans();
            slow.team(1, 0, 0, 0);
            for (int p = 0; p < 20; p++) {
                int home = chance.nextInt(32) & chance.nextInt(32) & chance.nextInt(32);
                int sure = chance.nextInt(65);
                due.is("twenty " + run + ": person", x.person(0, home, sure), slow.person(0, home, sure));
            }
            for (int n = 0; n <= 20; n++) {
                for (int d = 0; d < 5; d++) {
                    due.is("twenty " + run + ": lack(0, " + n + ", " + d + ")", x.lack(0, n, d), slow.lack(0, n, d));
                }
            }
            for (int share = 0; share <= 1000; share += 1 + run * 2) {
                if (share < 100 || share % 50 == 0) {
                    due.is("twenty " + run + ": least(0, " + share + ")", x.least(0, share), slow.least(0, share));
                }
            }
        }
    }

    private static void lackRefusals(Due due) {
        FloorPlans x = withTeams(1);
        due.is("lack(1, 0, 0)", x.lack(1, 0, 0), -1);
        due.is("lack(-1, 0, 0)", x.lack(-1, 0, 0), -1);
        due.is("lack(0, 0, 5)", x.lack(0, 0, 5), -1);
        due.is("lack(0, -1, -1): -1 first", x.lack(0, -1, -1), -1);
        due.is("lack(0, 21, 5): -1 first", x.lack(0, 21, 5), -1);
        due.is("lack(0, -1, 0)", x.lack(0, -1, 0), -4);
        due.is("lack(0, 21, 4)", x.lack(0, 21, 4), -6);
        due.refusals("lack:", x, 5, 0, 0, 1, 1);
    }

    private static void least(Due due) {
        FloorPlans x = withTeams(2);
        due.is("least(0, 0) of nobody", x.least(0, 0), 0);
        x.person(0, 30, 32);
        due.is("one, half sure, on weekday 0: least(0, 500)", x.least(0, 500), 0);
        due.is("least(0, 499)", x.least(0, 499), 1);
        x.person(0, 15, 64);
        x.person(0, 15, 64);
        due.is("two, sure, on weekday 4: least(0, 999)", x.least(0, 999), 2);
        x.person(0, 15, 16);
        due.is("one more, 1 of 4 sure: least(0, 250)", x.least(0, 250), 2);
        due.is("least(0, 249)", x.least(0, 249), 3);
        due.is("least(0, 0)", x.least(0, 0), 3);
        due.is("least(0, 1000)", x.least(0, 1000), 0);
        due.is("least(1, 0)", x.least(1, 0), 0);
    }

    private static void leastRefusals(Due due) {
        FloorPlans x = withTeams(1);
        due.is("least(1, -1): -1 first", x.least(1, -1), -1);
        due.is("least(-1, 0)", x.least(-1, 0), -1);
        due.is("least(0, -1)", x.least(0, -1), -4);
        due.is("least(0, 1001)", x.least(0, 1001), -6);
        due.refusals("least:", x, 2, 0, 0, 1, 1);
    }
}
