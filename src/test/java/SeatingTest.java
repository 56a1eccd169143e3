/** Promises 8 and 10 to 13: seatings that are fit, what is walked, and the best seating. */
final class SeatingTest {
    public static void main(String[] args) {
        Due due = new Due("SeatingTest");
        fitBySeats(due);
        fitByKinds(due);
        fitByTwos(due);
        fitByNoise(due);
        walked(due);
        bestWalksLeast(due);
        bestChangesFewest(due);
        bestIsFirst(due);
        bestAsksAllThatSit(due);
        bestAtItsLimits(due);
        bestRefusals(due);
        bestOf(due);
        seat(due);
        due.end();
    }

    private static FloorPlans withTeams(int n, int size) {
        FloorPlans x = new FloorPlans();
        for (int t = 0; t < n; t++) {
            x.team(size, 0, 0, 0);
        }
        return x;
    }

    private static void fitBySeats(Due due) {
        FloorPlans x = withTeams(2, 20);
        due.is("fit() while none sits", x.fit(), 1);
        x.sit(0, 10);
        x.sit(1, 10);
        due.is("fit() with 40 of 40", x.fit(), 1);
        x.size(1, 21);
        due.is("fit() with 41 of 40", x.fit(), 0);
        x.floor(10, 0, 41);
        due.is("fit() with 41 of 41", x.fit(), 1);
        x.floor(10, 0, 20);
        due.is("fit() with 41 of 20", x.fit(), 0);
        x.sit(1, -9);
        due.is("fit() with 20 of 20", x.fit(), 1);
        x.floor(0, 0, 0);
        due.is("fit() with an empty floor without seats", x.fit(), 1);
    }

    private static void fitByKinds(Due due) {
        FloorPlans x = new FloorPlans();
        x.team(1, 5, 0, 0);
        x.floor(3, 1, 4);
        due.is("fit() while it does not sit", x.fit(), 1);
        x.sit(0, 3);
        due.is("fit() with strong alone", x.fit(), 0);
        x.floor(3, 1, 3);
        due.is("fit() with water and sun", x.fit(), 0);
        x.floor(3, 1, 5);
        due.is("fit() with all that it needs", x.fit(), 1);
        x.floor(3, 1, 7);
        due.is("fit() with more than it needs", x.fit(), 1);
    }

    private static void fitByTwos(Due due) {
        FloorPlans x = withTeams(3, 1);
        x.sit(0, 4);
        x.sit(1, 4);
        x.two(1, 0, 1, 1);
        due.is("fit() with barred ones on one floor", x.fit(), 0);
        x.sit(1, 5);
        due.is("fit() with barred ones apart", x.fit(), 1);
        x.two(0, 1, 2, 1);
        due.is("fit() with near ones by 1", x.fit(), 1);
        x.sit(1, 6);
        due.is("fit() with near ones by 2", x.fit(), 0);
        x.sit(1, 3);
        due.is("fit() with near ones by 1 below", x.fit(), 1);
        x.sit(1, 2);
        due.is("fit() with near ones by 2 below", x.fit(), 0);
        x.sit(1, -9);
        due.is("fit() with one of the near ones alone", x.fit(), 1);
        x.two(0, 1, 1, 0);
        x.sit(1, 4);
        due.is("fit() with near ones on one floor", x.fit(), 1);
        x.two(2, 0, 2, 1);
        x.sit(2, 10);
        due.is("fit() with another near one far away", x.fit(), 0);
    }

    private static void fitByNoise(Due due) {
        FloorPlans x = new FloorPlans();
        x.team(1, 0, 9, 0);
        x.sit(0, 0);
        due.is("fit(): it need not bear itself", x.fit(), 1);
        x.team(1, 0, 0, 8);
        x.sit(1, 0);
        due.is("fit(): 9 is more than 8", x.fit(), 0);
        x.sit(1, 1);
        due.is("fit(): on another floor it is not heard", x.fit(), 1);
        x.team(1, 0, 0, 9);
        x.sit(2, 0);
        due.is("fit(): 9 is borne by 9", x.fit(), 1);
        x.team(1, 0, 1, 9);
        x.sit(3, 0);
        due.is("fit(): the first bears nothing", x.fit(), 0);
        x.sit(0, 10);
        due.is("fit(): the third bears the fourth", x.fit(), 1);
    }

    private static void walked(Due due) {
        FloorPlans x = withTeams(3, 1);
        x.two(0, 1, 0, 7);
        x.two(2, 0, 0, 99);
        x.two(1, 2, 0, 2);
        due.is("walked() while none sits", x.walked(), 0);
        x.sit(0, 0);
        due.is("walked() by one", x.walked(), 0);
        x.sit(1, 3);
        due.is("walked() 7 times 3", x.walked(), 21);
        x.sit(2, 10);
        due.is("walked() 21, 990 and 14", x.walked(), 1025);
        x.lift(9);
        due.is("walked() by a slow lift", x.walked(), 9225);
        x.sit(0, 10);
        due.is("walked() 49, 0 and 14, by 9", x.walked(), 567);
        x.sit(1, -9);
        due.is("walked() on one floor", x.walked(), 0);
    }

    private static void bestWalksLeast(Due due) {
        FloorPlans x = withTeams(3, 20);
        x.two(0, 1, 0, 5);
        x.two(1, 2, 0, 6);
        x.sit(0, 0);
        x.sit(1, 5);
        x.sit(2, 10);
        due.is("best(1057, 7, 0): of 0, 5, 10", x.best(1057, 7, 0), 25);
        due.is("best(1057, 7, 1)", x.best(1057, 7, 1), 1);
        due.is("bestOf(1057, 7, 0)", x.bestOf(1057, 7, 0), 0);
        due.is("bestOf(1057, 7, 1)", x.bestOf(1057, 7, 1), 5);
        due.is("bestOf(1057, 7, 2)", x.bestOf(1057, 7, 2), 5);
        x.lift(4);
        due.is("best(1057, 7, 0) by a slow lift", x.best(1057, 7, 0), 100);
        due.is("best(1, 1, 0): all stay", x.best(1, 1, 0), 220);
        due.is("best(2, 2, 0): one is put on floor 1", x.best(2, 2, 0), (5 + 54) * 4);
        due.is("best(2, 2, 1)", x.best(2, 2, 1), 1);
        due.is("nothing has moved", x.teamOf(1, 4), 5);
        due.is("best(1, 7, 0): 60 on 40", x.best(1, 7, 0), -9);
        due.is("best(1, 7, 1): 60 on 40", x.best(1, 7, 1), -9);
        due.refusals("none is no refusal:", x, 0, 0, 0, 0, 0);
    }

    private static void bestChangesFewest(Due due) {
        FloorPlans x = withTeams(3, 20);
        x.sit(0, 7);
        x.sit(1, 2);
        x.two(0, 1, 0, 1);
        due.is("together: best(132, 3, 0)", x.best(132, 3, 0), 0);
        due.is("together: best(132, 3, 1)", x.best(132, 3, 1), 1);
        due.is("together: bestOf(132, 3, 0), the first of two with one change", x.bestOf(132, 3, 0), 2);
        x.two(0, 1, 0, 0);
        due.is("apart: best(132, 3, 1)", x.best(132, 3, 1), 0);
        due.is("apart: bestOf(132, 3, 0), though 2 is less", x.bestOf(132, 3, 0), 7);
        due.is("one that does not sit changes: best(132, 7, 1)", x.best(132, 7, 1), 1);
        due.is("it goes to the least floor: bestOf(132, 7, 2)", x.bestOf(132, 7, 2), 2);
    }

    private static void bestIsFirst(Due due) {
        FloorPlans x = withTeams(2, 40);
        due.is("both must be put: best(14, 3, 1)", x.best(14, 3, 1), 2);
        due.is("the first on the least: bestOf(14, 3, 0)", x.bestOf(14, 3, 0), 1);
        due.is("the second on the next: bestOf(14, 3, 1)", x.bestOf(14, 3, 1), 2);
        x.sit(0, 3);
        x.sit(1, 3);
        due.is("one must leave 3: best(14, 3, 1)", x.best(14, 3, 1), 1);
        due.is("the first leaves: bestOf(14, 3, 0)", x.bestOf(14, 3, 0), 1);
        due.is("the second stays: bestOf(14, 3, 1)", x.bestOf(14, 3, 1), 3);
    }

    private static void bestAsksAllThatSit(Due due) {
        FloorPlans x = withTeams(4, 10);
        x.sit(1, 0);
        x.two(0, 1, 1, 1);
        due.is("barred by one that stays: best(1, 1, 0)", x.best(1, 1, 0), -9);
        due.is("on another floor: bestOf(3, 1, 0)", x.bestOf(3, 1, 0), 1);
        x.two(0, 1, 2, 1);
        due.is("too far from one that stays: best(12, 1, 0)", x.best(12, 1, 0), -9);
        x.sit(2, 9);
        x.floor(9, 0, 9);
        due.is("others are not fit: best(2, 1, 0)", x.best(2, 1, 0), -9);
        due.is("the other is moved too: bestOf(6, 5, 2)", x.bestOf(6, 5, 2), 1);
        x.floor(9, 0, 10);
        due.is("others are fit again: best(2, 1, 0)", x.best(2, 1, 0), 0);
        x.floor(1, 0, 9);
        due.is("no room: best(2, 1, 0)", x.best(2, 1, 0), -9);
        x.floor(1, 0, 19);
        x.sit(3, 1);
        due.is("no room beside one that stays: best(2, 1, 0)", x.best(2, 1, 0), -9);
        x.floor(1, 0, 20);
        due.is("room beside one that stays: best(2, 1, 0)", x.best(2, 1, 0), 0);
    }

    private static void bestAtItsLimits(Due due) {
        FloorPlans x = withTeams(8, 10);
        due.is("seven on four: best(1026 + 24, 127, 1)", x.best(1050, 127, 1), 7);
        due.is("the first four on floor 1", x.bestOf(1050, 127, 3), 1);
        due.is("the others on floor 3", x.bestOf(1050, 127, 4), 3);
        due.is("seven on four, by high numbers", x.bestOf(1050, 254, 7), 3);
        x.team(60, 0, 0, 0);
        x.two(7, 8, 0, 99);
        x.floor(10, 0, 300);
        x.sit(8, 10);
        due.is("one wants to be by the last", x.bestOf(1050, 254, 7), 10);
    }

    private static void bestRefusals(Due due) {
        FloorPlans x = withTeams(8, 1);
        due.is("best(0, 1, 0)", x.best(0, 1, 0), -1);
        due.is("best(1, 0, 0)", x.best(1, 0, 0), -1);
        due.is("best(2048, 1, 0)", x.best(2048, 1, 0), -1);
        due.is("best(2049, 1, 0)", x.best(2049, 1, 0), -1);
        due.is("best(1, 256, 0)", x.best(1, 256, 0), -1);
        due.is("best(1, 257, 0)", x.best(1, 257, 0), -1);
        due.is("best(-1, 1, 0)", x.best(-1, 1, 0), -1);
        due.is("best(1, -1, 9): -1 first", x.best(1, -1, 9), -1);
        due.is("best(1, 1, 2)", x.best(1, 1, 2), -2);
        due.is("best(1, 1, -1)", x.best(1, 1, -1), -2);
        x.fix(2, true);
        due.is("best(1, 7, 0)", x.best(1, 7, 0), -3);
        due.is("best(1, 7, 2): -2 first", x.best(1, 7, 2), -2);
        due.is("best(31, 255, 0): -3 first", x.best(31, 255, 0), -3);
        due.is("best(31, 1, 0)", x.best(31, 1, 0), -6);
        x.fix(2, false);
        due.is("best(1, 255, 0)", x.best(1, 255, 0), -6);
        due.refusals("best:", x, 8, 3, 2, 0, 2);
    }

    private static void bestOf(Due due) {
        FloorPlans x = withTeams(8, 30);
        due.is("bestOf(0, 1, 0)", x.bestOf(0, 1, 0), -1);
        due.is("bestOf(1, 256, 0)", x.bestOf(1, 256, 0), -1);
        due.is("bestOf(1, 1, 1): not of the set", x.bestOf(1, 1, 1), -1);
        due.is("bestOf(1, 1, 8)", x.bestOf(1, 1, 8), -1);
        due.is("bestOf(1, 1, -1)", x.bestOf(1, 1, -1), -1);
        due.is("bestOf(1, 1, 32)", x.bestOf(1, 1, 32), -1);
        due.is("bestOf(31, 1, 1): -6 before it is not of the set", x.bestOf(31, 1, 1), -6);
        due.is("bestOf(1, 255, 9)", x.bestOf(1, 255, 9), -6);
        x.fix(7, true);
        due.is("bestOf(1, 128, 1): -3 before it is not of the set", x.bestOf(1, 128, 1), -3);
        due.is("bestOf(31, 128, 7): -3 before -6", x.bestOf(31, 128, 7), -3);
        due.is("bestOf(1, 3, 0): there is none", x.bestOf(1, 3, 0), -9);
        due.is("bestOf(1, 3, 2): not of the set", x.bestOf(1, 3, 2), -1);
        due.refusals("bestOf:", x, 7, 0, 2, 0, 2);
    }

    private static void seat(Due due) {
        FloorPlans x = withTeams(8, 20);
        x.sit(1, 1);
        x.sit(2, 6);
        x.two(0, 2, 0, 3);
        due.is("seat(66, 3)", x.seat(66, 3), 1);
        due.is("it is done: team 0", x.teamOf(0, 4), 6);
        due.is("it is done: team 1", x.teamOf(1, 4), 1);
        due.is("others stay", x.teamOf(2, 4), 6);
        due.is("others stay away", x.teamOf(3, 4), -9);
        due.is("seat(66, 3) again", x.seat(66, 3), 0);
        due.is("seat(64, 7): there is none", x.seat(64, 7), -3);
        due.is("refused, all stay", x.teamOf(1, 4), 1);
        due.is("seat(0, 1)", x.seat(0, 1), -1);
        due.is("seat(1, 512)", x.seat(1, 512), -1);
        due.is("seat(31, 1)", x.seat(31, 1), -6);
        due.is("seat(1, 255)", x.seat(1, 255), -6);
        x.fix(0, true);
        due.is("seat(31, 1) of a fixed one: -3 first", x.seat(31, 1), -3);
        due.refusals("seat:", x, 2, 0, 2, 0, 2);
    }
}
