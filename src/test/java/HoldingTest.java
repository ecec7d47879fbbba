/** Promises 19, 20 and 34: report, held, look. */
public final class HoldingTest {
    private static final int NONE = SleepOffice.NONE;
    private static final Checks c = new Checks("HoldingTest");

    public static void main(String[] args) {
        report();
        reportOfMerged();
        held();
        heldStays();
        interest();
        greatInterest();
        look();
        c.finish();
    }

    private static SleepOffice office(int day) {
        SleepOffice x = Checks.officeOn(day);
        x.firm(0);
        x.firm(1);
        x.person(0, NONE, NONE, NONE, NONE);
        x.person(1, NONE, 2, NONE, NONE);
        return x;
    }

    private static void report() {
        SleepOffice x = office(1800);
        x.account(0, 0, 0, 0);
        x.account(0, 0, 0, 1);
        x.account(1, 0, 0, 0);
        x.account(0, 0, 1, 0);
        c.due("report(-1)", x.report(-1), NONE);
        c.due("report(2)", x.report(2), NONE);
        c.due("report(0)", x.report(0), 2);
        c.due("one that sleeps from today", x.held(0, 2), 1800);
        c.due("not one that sleeps from tomorrow", x.held(1, 2), NONE);
        c.due("not one of another firm", x.held(2, 2), NONE);
        c.due("one with a sum of 0", x.held(3, 1), 0);
        c.due("held by the firm's state", x.held(0, 0), 0);
        c.due("held by the owner's home", x.held(3, 0), 2);
        c.due("report(0) again", x.report(0), 0);
        x.days(1);
        c.due("the next one a day later", x.report(0), 1);
        c.due("LATE by 0", x.held(1, 3), 0);
    }

    private static void reportOfMerged() {
        SleepOffice x = office(2000);
        x.firm(3);
        x.account(0, 0, 0, 0);
        x.account(1, 0, 0, 0);
        x.merge(0, 1, 50);
        x.merge(1, 2, 60);
        c.due("one that is merged", x.report(0), NONE);
        c.due("one that is merged later", x.report(1), NONE);
        c.due("the last one has all", x.report(2), 2);
        c.due("its state", x.held(0, 0), 3);
        c.due("its state too", x.held(1, 0), 3);
    }

    private static void held() {
        SleepOffice x = office(2000);
        x.account(0, 0, 0, 0);
        x.account(0, 0, 0, 0);
        x.act(0, 0, 100, 500);
        x.act(1, 0, 50, -3);
        c.due("not held yet", x.held(0, 1), NONE);
        x.report(0);
        long[] want = {0, 500, 2000, 100, 0, 0};
        for (int what = 0; what < want.length; what++) {
            c.due("held(0, " + what + ")", x.held(0, what), want[what]);
        }
        c.due("below 0 is held as 0", x.held(1, 1), 0);
        c.due("held(0, 6)", x.held(0, 6), NONE);
        c.due("held(0, -1)", x.held(0, -1), NONE);
        c.due("held(2, 0)", x.held(2, 0), NONE);
        c.due("held(-1, 0)", x.held(-1, 0), NONE);
    }

    private static void heldStays() {
        SleepOffice x = office(2000);
        x.account(0, 0, 0, 0);
        x.act(0, 0, 100, 500);
        x.report(0);
        c.due("a later act", x.act(0, 0, 2000, 77), true);
        x.moves(0, 3);
        Checks.read(x, 0, "sleep 0 40;");
        x.merge(0, 1, 1);
        x.days(1);
        long[] want = {0, 500, 2000, 100, 0, 0};
        for (int what = 0; what < want.length; what++) {
            c.due("held(0, " + what + ") stays", x.held(0, what), want[what]);
        }
        c.due("the sum goes on", x.sum(0, 2001, 2001), 577);
        c.due("report again", x.report(1), 0);
    }

    private static void interest() {
        SleepOffice x = office(2000);
        x.account(0, 0, 0, 0);
        x.act(0, 0, 0, 1000);
        Checks.read(x, 0, "interest 36 2;");
        x.report(0);
        c.due("at once", x.held(0, 4), 0);
        x.days(9);
        c.due("0.9 downwards", x.held(0, 4), 0);
        x.days(1);
        c.due("10 days", x.held(0, 4), 1);
        x.days(710);
        c.due("2 years", x.held(0, 4), 72);
        x.days(360);
        c.due("2 years at most", x.held(0, 4), 72);
        Checks.read(x, 0, "interest 100 40;");
        c.due("by the law NOW", x.held(0, 4), 300);
        x.moves(0, 1);
        c.due("by the state that holds it", x.held(0, 4), 300);
        Checks.read(x, 0, "interest 200 0;");
        c.due("0 years at most", x.held(0, 4), 0);
    }

    /** Held times thousandths times days is beyond a long here. */
    private static void greatInterest() {
        SleepOffice x = office(2000);
        x.account(0, 0, 0, 0);
        for (int i = 0; i < 450; i++) {
            x.act(0, 0, 0, 9999999);
        }
        for (int day = 1; day <= 4; day++) {
            x.grow(0, day, 9, 1);
        }
        Checks.read(x, 0, "interest 200 40;");
        x.report(0);
        Checks.until(x, 2000 + 14400);
        long held = 450L * 9999999 * 6561;
        c.due("what is held", x.held(0, 1), held);
        c.due("interest of 40 years", x.held(0, 4), held * 8);
        c.due("all that is held", x.look(6), held);
    }

    private static void look() {
        SleepOffice x = office(2000);
        x.account(0, 0, 0, 0);
        x.account(0, 0, 1, 0);
        x.account(0, 0, 1, 1999);
        x.act(0, 0, 0, 300);
        x.act(1, 0, 0, 40);
        x.act(2, 0, 1999, 5);
        x.grow(0, 1, 2, 1);
        x.report(0);
        x.claim(0, 0, 0, 0);
        x.claim(1, 1, 0, 0);
        x.claim(1, 0, 0, 0);
        x.pay(0);
        x.pay(1);
        long[] want = {2000, 2, 2, 3, 4, 2, 640, 640, 3};
        for (int what = 0; what < want.length; what++) {
            c.due("look(" + what + ")", x.look(what), want[what]);
        }
        x.dies(0, 2000);
        x.back(0);
        c.due("what was taken back is PAID no more", x.look(7), 40);
        c.due("look(9)", x.look(9), NONE);
        c.due("look(-1)", x.look(-1), NONE);
    }
}
