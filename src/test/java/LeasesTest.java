/** Promises 22 to 26: growth by quarters, leases kept at the least price, bills, and turns at the windows. */
final class LeasesTest {
    public static void main(String[] args) {
        Due due = new Due("LeasesTest");
        growth(due);
        growthRefusals(due);
        keptAtLeastPrice(due);
        keptOfFewestFloors(due);
        keptOfLeastBits(due);
        keptByLeases(due);
        keptRefusals(due);
        bill(due);
        billOfManyRests(due);
        turn(due);
        turnBySize(due);
        turnRefusals(due);
        due.end();
    }

    private static void growth(Due due) {
        FloorPlans x = new FloorPlans();
        x.team(30, 0, 0, 0);
        x.team(7, 0, 0, 0);
        due.is("sizeIn(0, 0) as now", x.sizeIn(0, 0), 30);
        due.is("sizeIn(0, 19) as now", x.sizeIn(0, 19), 30);
        due.is("grow(0, 4, 200)", x.grow(0, 4, 200), 1);
        due.is("grow(0, 9, 0)", x.grow(0, 9, 0), 1);
        due.is("sizeIn(0, 3)", x.sizeIn(0, 3), 30);
        due.is("sizeIn(0, 4)", x.sizeIn(0, 4), 200);
        due.is("sizeIn(0, 8)", x.sizeIn(0, 8), 200);
        due.is("sizeIn(0, 9): 0 is not missing", x.sizeIn(0, 9), 0);
        due.is("sizeIn(0, 19)", x.sizeIn(0, 19), 0);
        due.is("sizeIn(1, 9)", x.sizeIn(1, 9), 7);
        x.size(0, 31);
        due.is("sizeIn(0, 3) by the new size", x.sizeIn(0, 3), 31);
        due.is("grow(0, 0, 5)", x.grow(0, 0, 5), 1);
        due.is("sizeIn(0, 0)", x.sizeIn(0, 0), 5);
        due.is("size now is as it was", x.teamOf(0, 0), 31);
        due.is("grow(0, 4, -1)", x.grow(0, 4, -1), 1);
        due.is("sizeIn(0, 8): missing again", x.sizeIn(0, 8), 5);
        due.is("grow(0, 4, -1) again", x.grow(0, 4, -1), 1);
        due.is("grow(0, 19, 1)", x.grow(0, 19, 1), 1);
        due.is("sizeIn(0, 19)", x.sizeIn(0, 19), 1);
        due.is("sizeIn(0, 18)", x.sizeIn(0, 18), 0);
    }

    private static void growthRefusals(Due due) {
        FloorPlans x = new FloorPlans();
        x.team(30, 0, 0, 0);
        due.is("grow(1, 0, 0)", x.grow(1, 0, 0), -1);
        due.is("grow(-1, 0, 0)", x.grow(-1, 0, 0), -1);
        due.is("grow(0, 20, -2): -1 first", x.grow(0, 20, -2), -1);
        due.is("grow(0, -1, 201): -1 first", x.grow(0, -1, 201), -1);
        due.is("grow(0, 0, -2)", x.grow(0, 0, -2), -4);
        due.is("grow(0, 0, -9)", x.grow(0, 0, -9), -4);
        due.is("grow(0, 0, 201)", x.grow(0, 0, 201), -6);
        due.is("sizeIn(1, 0)", x.sizeIn(1, 0), -1);
        due.is("sizeIn(-1, 0)", x.sizeIn(-1, 0), -1);
        due.is("sizeIn(0, 20)", x.sizeIn(0, 20), -1);
        due.is("sizeIn(0, -1)", x.sizeIn(0, -1), -1);
        due.refusals("grow:", x, 8, 0, 0, 2, 1);
        due.is("refused, it stays", x.sizeIn(0, 0), 30);
    }

    private static void keptAtLeastPrice(Due due) {
        FloorPlans x = new FloorPlans();
        x.team(40, 0, 0, 0);
        due.is("40 of 40: kept(0, 0)", x.kept(0, 0), 1);
        x.team(1, 0, 0, 0);
        due.is("41: kept(0, 0)", x.kept(0, 0), 3);
        due.is("41: kept(0, 1)", x.kept(0, 1), 800);
        x.floor(10, 0, 1);
        x.floor(10, 2, 399);
        due.is("a dear seat is cheaper than a floor: kept(0, 0)", x.kept(0, 0), 1025);
        due.is("kept(0, 1)", x.kept(0, 1), 799);
        x.floor(10, 2, 401);
        due.is("or not: kept(0, 0)", x.kept(0, 0), 3);
        x.floor(7, 0, 300);
        x.floor(7, 2, 2);
        due.is("a great cheap floor: kept(0, 0)", x.kept(0, 0), 128);
        due.is("all its seats are paid: kept(0, 1)", x.kept(0, 1), 600);
        x.grow(0, 5, 0);
        x.grow(1, 6, 0);
        due.is("in quarter 5: kept(5, 0)", x.kept(5, 0), 1);
        due.is("1 in quarter 5: kept(5, 1)", x.kept(5, 1), 400);
        due.is("nobody in quarter 6: kept(6, 0)", x.kept(6, 0), 0);
        due.is("nobody in quarter 6: kept(6, 1)", x.kept(6, 1), 0);
    }

    private static void keptOfFewestFloors(Due due) {
        FloorPlans x = new FloorPlans();
        x.team(60, 0, 0, 0);
        x.floor(8, 0, 80);
        due.is("800 for one or for two: kept(0, 0)", x.kept(0, 0), 256);
        x.floor(9, 0, 80);
        due.is("800 for one or the other: kept(0, 0)", x.kept(0, 0), 256);
        x.floor(8, 2, 11);
        due.is("800 for one: kept(0, 0)", x.kept(0, 0), 512);
        x.floor(3, 2, 0);
        due.is("a gift: kept(0, 0)", x.kept(0, 0), 9);
        due.is("a gift: kept(0, 1)", x.kept(0, 1), 400);
        x.floor(5, 2, 0);
        due.is("two gifts: kept(0, 0)", x.kept(0, 0), 40);
        due.is("two gifts: kept(0, 1)", x.kept(0, 1), 0);
        x.floor(6, 2, 0);
        due.is("three gifts, of which two are needed: kept(0, 0)", x.kept(0, 0), 40);
    }

    /** Floors as told, {number, seats, price}, are held; all others are given up behind quarter 0. */
    private static FloorPlans holding(int[]... told) {
        FloorPlans x = new FloorPlans();
        for (int f = 0; f <= 10; f++) {
            x.floor(f, 3, 0);
        }
        for (int[] one : told) {
            x.floor(one[0], 0, one[1]);
            x.floor(one[0], 2, one[2]);
            x.floor(one[0], 3, 1);
        }
        x.team(60, 0, 0, 0);
        return x;
    }

    private static void keptOfLeastBits(Due due) {
        FloorPlans x = holding(new int[] {0, 10, 10}, new int[] {10, 50, 10}, new int[] {1, 30, 10}, new int[] {2, 30, 10});
        due.is("600 for 0 and 10, or for 1 and 2: kept(1, 0)", x.kept(1, 0), 6);
        due.is("kept(1, 1)", x.kept(1, 1), 600);
        FloorPlans y = holding(new int[] {0, 20, 10}, new int[] {1, 20, 10}, new int[] {3, 40, 10}, new int[] {4, 20, 0});
        due.is("400 for 0, 1 and 4, or for 3 and 4: kept(1, 0)", y.kept(1, 0), 24);
        due.is("kept(1, 1)", y.kept(1, 1), 400);
        FloorPlans z = holding(new int[] {0, 0, 0}, new int[] {1, 60, 0}, new int[] {2, 60, 0});
        due.is("a floor without seats is not kept: kept(1, 0)", z.kept(1, 0), 2);
        due.is("kept(1, 1)", z.kept(1, 1), 0);
        z.size(0, 59);
        z.team(60, 0, 0, 0);
        z.team(2, 0, 0, 0);
        due.is("121 of 120: kept(1, 0)", z.kept(1, 0), -9);
        z.size(2, 1);
        due.is("120 of 120: kept(1, 0)", z.kept(1, 0), 6);
    }

    private static void keptByLeases(Due due) {
        FloorPlans x = new FloorPlans();
        x.team(60, 0, 0, 0);
        for (int f = 0; f <= 10; f++) {
            x.floor(f, 3, f);
        }
        due.is("all are held: kept(0, 0)", x.kept(0, 0), 3);
        due.is("from 1 on: kept(1, 0)", x.kept(1, 0), 6);
        due.is("9 and 10: kept(9, 0)", x.kept(9, 0), 1536);
        due.is("10 alone: kept(10, 0)", x.kept(10, 0), -9);
        due.is("10 alone: kept(10, 1)", x.kept(10, 1), -9);
        due.is("none: kept(19, 1)", x.kept(19, 1), -9);
        x.grow(0, 19, 0);
        due.is("none for nobody: kept(19, 0)", x.kept(19, 0), 0);
        for (int f = 0; f <= 10; f++) {
            x.floor(f, 3, 19);
            x.floor(f, 0, 300);
            x.floor(f, 2, 999);
        }
        for (int t = 1; t < 16; t++) {
            x.team(1, 0, 0, 0);
            x.grow(t, 0, 200);
        }
        x.grow(0, 0, 200);
        due.is("3200 of 3300: kept(0, 0)", x.kept(0, 0), 2047);
        due.is("3200 of 3300: kept(0, 1)", x.kept(0, 1), 3296700);
        due.refusals("none is no refusal:", x, 0, 0, 0, 0, 0);
    }

    private static void keptRefusals(Due due) {
        FloorPlans x = new FloorPlans();
        due.is("kept(20, 0)", x.kept(20, 0), -1);
        due.is("kept(-1, 2): -1 first", x.kept(-1, 2), -1);
        due.is("kept(0, 2)", x.kept(0, 2), -2);
        due.is("kept(19, -1)", x.kept(19, -1), -2);
        due.refusals("kept:", x, 2, 2, 0, 0, 0);
    }

    private static void bill(Due due) {
        FloorPlans x = new FloorPlans();
        x.team(1, 0, 0, 0);
        x.team(2, 0, 0, 0);
        x.team(60, 0, 0, 0);
        due.is("bill(0) of one that does not sit", x.bill(0), 0);
        x.sit(0, 10);
        due.is("bill(0) alone: all seats", x.bill(0), 400);
        x.sit(1, 10);
        due.is("bill(0): 133 and 1 of 3", x.bill(0), 133);
        due.is("bill(1): 266 and 2 of 3, and the coin", x.bill(1), 267);
        due.is("bill(2)", x.bill(2), 0);
        x.grow(0, 0, 100);
        due.is("growth counts not", x.bill(0), 133);
        x.size(0, 2);
        due.is("by the new size", x.bill(0), 200);
        x.sit(2, 9);
        x.floor(9, 0, 300);
        x.floor(9, 2, 999);
        due.is("the greatest bill", x.bill(2), 299700);
        x.floor(9, 2, 0);
        due.is("no price", x.bill(2), 0);
        due.is("bill(3)", x.bill(3), -1);
        due.is("bill(-1)", x.bill(-1), -1);
        due.refusals("bill:", x, 2, 0, 0, 0, 0);
    }

    private static void billOfManyRests(Due due) {
        FloorPlans x = new FloorPlans();
        int[] sizes = {3, 3, 5, 3, 2};
        for (int t = 0; t < sizes.length; t++) {
            x.team(sizes[t], 0, 0, 0);
            x.sit(t, 0);
        }
        x.floor(0, 0, 7);
        x.floor(0, 2, 1);
        // 7 coins by 16: 21 / 16 = 1 rest 5 (thrice), 35 / 16 = 2 rest 3, 14 / 16 = 0 rest 14; 2 coins are left.
        int[] want = {2, 1, 2, 1, 1};
        for (int t = 0; t < sizes.length; t++) {
            due.is("rests: bill(" + t + ")", x.bill(t), want[t]);
        }
        x.floor(0, 0, 1);
        int[] one = {0, 0, 1, 0, 0};
        for (int t = 0; t < sizes.length; t++) {
            due.is("one coin: bill(" + t + ")", x.bill(t), one[t]);
        }
        x.floor(0, 0, 16);
        for (int t = 0; t < sizes.length; t++) {
            due.is("no coin left: bill(" + t + ")", x.bill(t), sizes[t]);
        }
    }

    private static void turn(Due due) {
        FloorPlans x = new FloorPlans();
        x.team(1, 0, 0, 0);
        x.team(1, 0, 0, 0);
        x.team(1, 0, 0, 0);
        x.sit(1, 4);
        x.floor(4, 1, 5);
        due.is("turn(4) without sun", x.turn(4), -3);
        x.floor(4, 1, 7);
        due.is("turn(4)", x.turn(4), 1);
        x.sit(2, 4);
        due.is("turn(4): the new one had none", x.turn(4), 2);
        x.sit(0, 4);
        due.is("turn(4): the least had none", x.turn(4), 0);
        due.is("turn(4): of three with one the least", x.turn(4), 0);
        due.is("turn(4): then the next", x.turn(4), 1);
        due.is("turns of 0", x.teamOf(0, 8), 2);
        due.is("turns of 1", x.teamOf(1, 8), 2);
        due.is("turns of 2", x.teamOf(2, 8), 1);
        x.sit(2, -9);
        x.sit(2, 4);
        due.is("turns stay when it goes and comes", x.teamOf(2, 8), 1);
    }

    private static void turnBySize(Due due) {
        FloorPlans x = new FloorPlans();
        x.team(2, 0, 0, 0);
        x.team(3, 0, 0, 0);
        x.floor(0, 1, 2);
        x.sit(0, 0);
        x.sit(1, 0);
        // 0/2 0/3, 1/2 0/3, 1/2 1/3, 1/2 2/3, 2/2 2/3, 2/2 3/3 and round again.
        int[] want = {0, 1, 1, 0, 1, 0, 1, 1, 0, 1};
        for (int i = 0; i < want.length; i++) {
            due.is("turn " + i + " by size", x.turn(0), want[i]);
        }
        x.size(0, 60);
        due.is("grown, it had the fewest", x.turn(0), 0);
    }

    private static void turnRefusals(Due due) {
        FloorPlans x = new FloorPlans();
        x.team(1, 0, 0, 0);
        due.is("turn(11)", x.turn(11), -1);
        due.is("turn(-1)", x.turn(-1), -1);
        due.is("turn(-9)", x.turn(-9), -1);
        due.is("turn(0) with nobody there", x.turn(0), -3);
        x.floor(0, 1, 2);
        due.is("turn(0) with sun but nobody there", x.turn(0), -3);
        x.floor(0, 1, 0);
        x.sit(0, 0);
        due.is("turn(0) without sun", x.turn(0), -3);
        due.refusals("turn:", x, 3, 0, 3, 0, 0);
        due.is("refused, it had no turn", x.teamOf(0, 8), 0);
    }
}
