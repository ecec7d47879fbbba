/** Promises 1 to 5: a new object, days, firm, merge, firmOn. */
public final class FirmsTest {
    private static final int NONE = SleepOffice.NONE;
    private static final Checks c = new Checks("FirmsTest");

    public static void main(String[] args) {
        newObject();
        days();
        firm();
        merge();
        mergeOrder();
        firmOn();
        c.finish();
    }

    private static void newObject() {
        SleepOffice x = new SleepOffice();
        for (int what = 0; what <= 8; what++) {
            c.due("new look(" + what + ")", x.look(what), 0);
        }
        c.due("new fault(0)", x.fault(0), 0);
        c.due("new fault(1)", x.fault(1), NONE);
        c.due("new end(1)", x.end(1), false);
        c.due("new end(0)", x.end(0), true);
        int[] plain = {5, 5, 5, 5, 63, 30, 10, 0, 0};
        for (int s = 0; s < 4; s++) {
            for (int what = 0; what < plain.length; what++) {
                c.due("new told(" + s + ", " + what + ")", x.told(s, what), plain[what]);
            }
        }
        c.due("new firmOn", x.firmOn(0, 0), NONE);
        c.due("new report", x.report(0), NONE);
        c.due("new held", x.held(0, 0), NONE);
        c.due("new heirs", x.heirs(0), NONE);
        c.due("new claimOf", x.claimOf(0, 0), NONE);
        SleepOffice other = new SleepOffice();
        x.days(10);
        x.firm(0);
        c.due("another object's day", other.look(0), 0);
        c.due("another object's firms", other.look(1), 0);
    }

    private static void days() {
        SleepOffice x = new SleepOffice();
        c.due("days(0)", x.days(0), NONE);
        c.due("days(-1)", x.days(-1), NONE);
        c.due("days(10000)", x.days(10000), NONE);
        c.due("days(2147483647)", x.days(2147483647), NONE);
        c.due("days(-2147483648)", x.days(-2147483648), NONE);
        c.due("day as before", x.look(0), 0);
        c.due("days(1)", x.days(1), 1);
        c.due("days(9999)", x.days(9999), 10000);
        c.due("days(9999) to the last one", x.days(9999), 19999);
        c.due("days(1) beyond", x.days(1), NONE);
        c.due("day is the last one", x.look(0), 19999);
    }

    private static void firm() {
        SleepOffice x = new SleepOffice();
        c.due("firm(-1)", x.firm(-1), NONE);
        c.due("firm(4)", x.firm(4), NONE);
        for (int f = 0; f < 8; f++) {
            c.due("firm " + f, x.firm(f % 4), f);
        }
        c.due("the 9th firm", x.firm(0), NONE);
        c.due("firms", x.look(1), 8);
    }

    private static void merge() {
        SleepOffice x = Checks.officeOn(1000);
        x.firm(0);
        x.firm(1);
        x.firm(2);
        c.due("merge(-1, 0, 5)", x.merge(-1, 0, 5), false);
        c.due("merge(0, -1, 5)", x.merge(0, -1, 5), false);
        c.due("merge(3, 0, 5)", x.merge(3, 0, 5), false);
        c.due("merge(0, 3, 5)", x.merge(0, 3, 5), false);
        c.due("merge(0, 0, 5)", x.merge(0, 0, 5), false);
        c.due("merge(0, 1, -1)", x.merge(0, 1, -1), false);
        c.due("merge(0, 1, 1001)", x.merge(0, 1, 1001), false);
        c.due("nothing was done", x.firmOn(0, 1000), 0);
        c.due("merge(0, 1, 1000), now", x.merge(0, 1, 1000), true);
        c.due("merge(0, 2, 1000), once", x.merge(0, 2, 1000), false);
        c.due("merge(2, 0, 1000), into one merged on it", x.merge(2, 0, 1000), false);
        c.due("merge(1, 2, 1000), one came into it on it", x.merge(1, 2, 1000), false);
        c.due("merge(1, 2, 999), one came into it behind it", x.merge(1, 2, 999), false);
        c.due("merge(2, 0, 999), into one merged later", x.merge(2, 0, 999), true);
        c.due("2 on 999", x.firmOn(2, 999), 0);
        c.due("2 on 1000", x.firmOn(2, 1000), 1);
    }

    private static void mergeOrder() {
        SleepOffice x = Checks.officeOn(500);
        x.firm(0);
        x.firm(0);
        x.firm(0);
        c.due("merge(1, 2, 300)", x.merge(1, 2, 300), true);
        c.due("merge(0, 1, 301), merged ahead of it", x.merge(0, 1, 301), false);
        c.due("merge(0, 1, 300), merged on it", x.merge(0, 1, 300), false);
        c.due("merge(0, 1, 299)", x.merge(0, 1, 299), true);
        c.due("merge(2, 0, 300), one came on it", x.merge(2, 0, 300), false);
        c.due("merge(2, 0, 500), into one merged ahead", x.merge(2, 0, 500), false);
    }

    private static void firmOn() {
        SleepOffice x = Checks.officeOn(100);
        for (int f = 0; f < 8; f++) {
            x.firm(0);
        }
        for (int f = 0; f < 7; f++) {
            c.due("merge in a row " + f, x.merge(f, f + 1, 10 * f), true);
        }
        for (int day = 0; day <= 70; day++) {
            c.due("firmOn(0, " + day + ")", x.firmOn(0, day), Math.min(7, day / 10 + 1));
        }
        c.due("firmOn(3, 29)", x.firmOn(3, 29), 3);
        c.due("firmOn(0, 19999)", x.firmOn(0, 19999), 7);
        c.due("firmOn(0, 20000)", x.firmOn(0, 20000), NONE);
        c.due("firmOn(0, -1)", x.firmOn(0, -1), NONE);
        c.due("firmOn(8, 0)", x.firmOn(8, 0), NONE);
        c.due("firmOn(-1, 0)", x.firmOn(-1, 0), NONE);
    }
}
