/** Promises 30 to 33: figure, costs, audit, looks. */
public final class YearsTest {
    private static final int NONE = SleepOffice.NONE;
    private static final Checks c = new Checks("YearsTest");

    public static void main(String[] args) {
        figure();
        costs();
        audit();
        looks();
        leastCostThenFirst();
        pursesAndCounts();
        dearOnesFirst();
        cheapBehindDear();
        c.finish();
    }

    private static void figure() {
        SleepOffice x = new SleepOffice();
        x.firm(0);
        x.firm(0);
        c.due("firm -1", x.figure(-1, 0, 0), false);
        c.due("firm 2", x.figure(2, 0, 0), false);
        c.due("year -1", x.figure(0, -1, 0), false);
        c.due("year 20", x.figure(0, 20, 0), false);
        c.due("value -2", x.figure(0, 0, -2), false);
        c.due("value 1000000", x.figure(0, 0, 1000000), false);
        c.due("all are gaps", x.audit(0, 1), 0);
        c.due("the greatest", x.figure(0, 0, 999999), true);
        c.due("the least", x.figure(0, 19, 0), true);
        c.due("told", x.audit(0, 40), 999999);
        c.due("another firm has none", x.audit(1, 40), 0);
        c.due("another figure", x.figure(0, 0, 5), true);
        c.due("it counts", x.audit(0, 10), 5);
        c.due("a gap again", x.figure(0, 0, NONE), true);
        c.due("it is one", x.audit(0, 40), 0);
        c.due("a gap of a gap", x.figure(0, 1, NONE), true);
    }

    private static void costs() {
        SleepOffice x = new SleepOffice();
        x.firm(0);
        x.figure(0, 19, 10);
        c.due("year -1", x.costs(-1, 1), false);
        c.due("year 20", x.costs(20, 1), false);
        c.due("cost 0", x.costs(0, 0), false);
        c.due("cost 100", x.costs(0, 100), false);
        c.due("as before", x.looks(0, 1, 999, 2), 1);
        for (int y = 0; y < 19; y++) {
            c.due("cost 99 of " + y, x.costs(y, 99), true);
        }
        c.due("counts", x.looks(0, 1, 999, 2), 99);
        c.due("cost 1", x.costs(19, 1), true);
    }

    private static void audit() {
        SleepOffice x = new SleepOffice();
        x.firm(0);
        for (int what = 0; what < 70; what++) {
            boolean known = what < 2 || what >= 10 && what < 30 || what >= 40 && what < 60;
            c.due("no figures, audit(0, " + what + ")", x.audit(0, what), known ? 0 : NONE);
        }
        x.figure(0, 3, 500);
        x.figure(0, 6, 200);
        x.figure(0, 7, 900);
        int[] least = {0, 0, 0, 500, 200, 200, 200, 900, 0, 0, 0, 0, 0, 0, 0, 0, 0, 0, 0, 0};
        int[] greatest = {500, 500, 500, 500, 500, 500, 200, 900, 900, 900,
            900, 900, 900, 900, 900, 900, 900, 900, 900, 900};
        int leastSum = 0;
        int greatestSum = 0;
        for (int y = 0; y < 20; y++) {
            c.due("least of " + y, x.audit(0, 10 + y), least[y]);
            c.due("greatest of " + y, x.audit(0, 40 + y), greatest[y]);
            leastSum += least[y];
            greatestSum += greatest[y];
        }
        c.due("least sum", x.audit(0, 0), leastSum);
        c.due("greatest sum", x.audit(0, 1), greatestSum);
        c.due("firm 1", x.audit(1, 0), NONE);
        c.due("firm -1", x.audit(-1, 0), NONE);
        c.due("what -1", x.audit(0, -1), NONE);
    }

    private static void looks() {
        SleepOffice x = new SleepOffice();
        x.firm(0);
        c.due("nothing narrows", x.looks(0, 20, 999, 0), 0);
        x.figure(0, 3, 500);
        x.figure(0, 5, 200);
        x.figure(0, 19, 200);
        // Gaps 0 .. 2 narrow by 500 each, 4 by 300, 6 .. 18 by nothing.
        three(x, 20, 999, 0b10111, 1800, 4);
        three(x, 3, 999, 0b00111, 1500, 3);
        three(x, 1, 999, 0b00001, 500, 1);
        three(x, 0, 999, 0, 0, 0);
        three(x, 20, 0, 0, 0, 0);
        three(x, 20, 2, 0b00011, 1000, 2);
        x.costs(0, 2);
        three(x, 1, 999, 0b00010, 500, 1);
        three(x, 3, 3, 0b10110, 1300, 3);
        three(x, 2, 3, 0b00110, 1000, 2);
        c.due("k -1", x.looks(0, -1, 0, 0), NONE);
        c.due("k 21", x.looks(0, 21, 0, 0), NONE);
        c.due("purse -1", x.looks(0, 0, -1, 0), NONE);
        c.due("purse 1000", x.looks(0, 0, 1000, 0), NONE);
        c.due("firm 1", x.looks(1, 0, 0, 0), NONE);
        c.due("firm -1", x.looks(-1, 0, 0, 0), NONE);
        c.due("what 3", x.looks(0, 0, 0, 3), NONE);
        c.due("what -1", x.looks(0, 0, 0, -1), NONE);
    }

    private static void leastCostThenFirst() {
        SleepOffice x = new SleepOffice();
        x.firm(0);
        for (int y = 1; y < 20; y += 2) {
            x.figure(0, y, y % 4 == 1 ? 0 : 100);
        }
        x.figure(0, 0, 0);
        // Gaps 2, 4, .. 18 narrow by 100 each.
        x.costs(2, 5);
        x.costs(4, 5);
        x.costs(6, 3);
        x.costs(8, 4);
        x.costs(10, 2);
        for (int y = 12; y < 20; y++) {
            x.costs(y, 9);
        }
        three(x, 1, 999, 1 << 10, 100, 2);
        three(x, 2, 999, 1 << 6 | 1 << 10, 200, 5);
        three(x, 4, 999, 1 << 2 | 1 << 6 | 1 << 8 | 1 << 10, 400, 14);
        three(x, 6, 999, 1 << 2 | 1 << 4 | 1 << 6 | 1 << 8 | 1 << 10 | 1 << 12, 600, 28);
        three(x, 1, 1, 0, 0, 0);
        three(x, 3, 9, 1 << 6 | 1 << 8 | 1 << 10, 300, 9);
        three(x, 3, 8, 1 << 6 | 1 << 10, 200, 5);
    }

    /** A cheap lot of small ones against a dear great one. */
    private static void pursesAndCounts() {
        SleepOffice x = new SleepOffice();
        x.firm(0);
        x.figure(0, 0, 0);
        x.figure(0, 2, 999999);
        x.figure(0, 4, 599999);
        x.figure(0, 6, 0);
        for (int y = 7; y < 20; y++) {
            x.figure(0, y, 0);
        }
        // Gaps: 1 by 999999, 3 by 400000, 5 by 599999.
        x.costs(1, 60);
        x.costs(3, 30);
        x.costs(5, 30);
        three(x, 20, 59, 1 << 5, 599999, 30);
        three(x, 20, 60, 1 << 1, 999999, 60);
        x.figure(0, 4, 600000);
        three(x, 20, 60, 1 << 1, 999999, 60);
        x.costs(3, 29);
        three(x, 20, 60, 1 << 3 | 1 << 5, 999999, 59);
        three(x, 1, 60, 1 << 1, 999999, 60);
        three(x, 20, 999, 1 << 1 | 1 << 3 | 1 << 5, 1999998, 119);
    }

    /** One run whose gaps get cheaper, each worth 1. */
    private static void dearOnesFirst() {
        SleepOffice x = new SleepOffice();
        x.firm(0);
        x.figure(0, 6, 1);
        x.figure(0, 19, 0);
        for (int y = 7; y < 19; y++) {
            x.figure(0, y, 0);
        }
        for (int y = 0; y < 6; y++) {
            x.costs(y, 6 - y);
        }
        three(x, 1, 999, 0b100000, 1, 1);
        three(x, 3, 999, 0b111000, 3, 6);
        three(x, 6, 9, 0b111000, 3, 6);
        three(x, 6, 10, 0b111100, 4, 10);
        x.costs(0, 3);
        three(x, 3, 999, 0b110001, 3, 6);
    }

    /** Gaps 0 and 1 narrow by 1 each, 3 and 4 by 100; in costs they stand between one another. */
    private static void cheapBehindDear() {
        SleepOffice x = new SleepOffice();
        x.firm(0);
        x.figure(0, 2, 1);
        for (int y = 5; y < 20; y++) {
            x.figure(0, y, 101);
        }
        x.costs(0, 5);
        x.costs(1, 9);
        x.costs(3, 7);
        x.costs(4, 3);
        three(x, 1, 999, 0b10000, 100, 3);
        three(x, 2, 999, 0b11000, 200, 10);
        three(x, 3, 999, 0b11001, 201, 15);
        three(x, 4, 999, 0b11011, 202, 24);
        three(x, 4, 9, 0b10001, 101, 8);
        x.costs(4, 99);
        three(x, 1, 999, 0b01000, 100, 7);
        three(x, 3, 98, 0b01011, 102, 21);
    }

    private static void three(SleepOffice x, int k, int purse, int set, int gain, int cost) {
        String call = "looks(0, " + k + ", " + purse + ", ";
        c.due(call + "0)", x.looks(0, k, purse, 0), set);
        c.due(call + "1)", x.looks(0, k, purse, 1), gain);
        c.due(call + "2)", x.looks(0, k, purse, 2), cost);
    }
}
