/** Promises 9 to 12: account, act, grow, sum. */
public final class AccountsTest {
    private static final int NONE = SleepOffice.NONE;
    private static final Checks c = new Checks("AccountsTest");

    public static void main(String[] args) {
        account();
        act();
        grow();
        sum();
        belowZero();
        asKnown();
        greatest();
        sixHundred();
        c.finish();
    }

    private static SleepOffice office(int day) {
        SleepOffice x = Checks.officeOn(day);
        x.firm(0);
        x.firm(1);
        x.person(0, NONE, NONE, NONE, NONE);
        return x;
    }

    private static void account() {
        SleepOffice x = office(100);
        c.due("firm -1", x.account(-1, 0, 0, 0), NONE);
        c.due("firm 2", x.account(2, 0, 0, 0), NONE);
        c.due("kind -1", x.account(0, -1, 0, 0), NONE);
        c.due("kind 4", x.account(0, 4, 0, 0), NONE);
        c.due("owner -1", x.account(0, 0, -1, 0), NONE);
        c.due("owner 1", x.account(0, 0, 1, 0), NONE);
        c.due("day -1", x.account(0, 0, 0, -1), NONE);
        c.due("day behind NOW", x.account(0, 0, 0, 101), NONE);
        c.due("none came", x.look(3), 0);
        x.merge(0, 1, 50);
        c.due("firm merged on that day", x.account(0, 0, 0, 50), NONE);
        c.due("firm merged ahead of it", x.account(0, 0, 0, 51), NONE);
        c.due("firm merged later", x.account(0, 3, 0, 49), 0);
        for (int a = 1; a < 40; a++) {
            c.due("account " + a, x.account(1, a % 4, 0, a), a);
        }
        c.due("the 41st", x.account(1, 0, 0, 0), NONE);
        c.due("accounts", x.look(3), 40);
    }

    private static void act() {
        SleepOffice x = office(100);
        x.account(0, 0, 0, 10);
        c.due("account -1", x.act(-1, 0, 10, 1), false);
        c.due("account 1", x.act(1, 0, 10, 1), false);
        c.due("sort -1", x.act(0, -1, 10, 1), false);
        c.due("sort 6", x.act(0, 6, 10, 1), false);
        c.due("ahead of its beginning", x.act(0, 0, 9, 1), false);
        c.due("behind NOW", x.act(0, 0, 101, 1), false);
        c.due("amount too small", x.act(0, 0, 10, -10000000), false);
        c.due("amount too great", x.act(0, 0, 10, 10000000), false);
        c.due("none was told", x.look(4), 0);
        c.due("the least amount", x.act(0, 5, 10, -9999999), true);
        c.due("the greatest amount", x.act(0, 0, 100, 9999999), true);
        c.due("an amount of 0", x.act(0, 0, 100, 0), true);
        c.due("told", x.look(4), 3);
    }

    private static void grow() {
        SleepOffice x = office(100);
        x.account(0, 0, 0, 10);
        x.account(0, 0, 0, 10);
        c.due("account 2", x.grow(2, 10, 1, 1), false);
        c.due("account -1", x.grow(-1, 10, 1, 1), false);
        c.due("ahead of its beginning", x.grow(0, 9, 1, 1), false);
        c.due("behind NOW", x.grow(0, 101, 1, 1), false);
        c.due("up 0", x.grow(0, 10, 0, 1), false);
        c.due("up 10", x.grow(0, 10, 10, 1), false);
        c.due("by 0", x.grow(0, 10, 1, 0), false);
        c.due("by 10", x.grow(0, 10, 1, 10), false);
        c.due("none was told", x.look(4), 0);
        c.due("the 1st", x.grow(0, 10, 9, 9), true);
        c.due("on that day again", x.grow(0, 10, 2, 1), false);
        c.due("on that day of another one", x.grow(1, 10, 2, 1), true);
        c.due("the 2nd", x.grow(0, 11, 1, 1), true);
        c.due("the 3rd", x.grow(0, 100, 1, 1), true);
        c.due("the 4th", x.grow(0, 50, 1, 1), true);
        c.due("the 5th", x.grow(0, 51, 1, 1), false);
        c.due("told", x.look(4), 5);
    }

    private static void sum() {
        SleepOffice x = office(100);
        x.account(0, 0, 0, 10);
        c.due("nothing yet", x.sum(0, 100, 100), 0);
        x.act(0, 0, 30, 7);
        x.grow(0, 30, 9, 2);
        x.act(0, 0, 20, 101);
        x.act(0, 1, 20, -1);
        c.due("ahead of all", x.sum(0, 19, 100), 0);
        c.due("ahead of its beginning", x.sum(0, 0, 100), 0);
        c.due("two on a day", x.sum(0, 20, 100), 100);
        c.due("growth first, then the act", x.sum(0, 30, 100), 457);
        x.grow(0, 20, 9, 1);
        c.due("growth of what was ahead: nothing", x.sum(0, 20, 100), 100);
        x.grow(0, 40, 1, 9);
        c.due("downwards", x.sum(0, 40, 100), 50);
        c.due("account 1", x.sum(1, 0, 0), NONE);
        c.due("account -1", x.sum(-1, 0, 0), NONE);
        c.due("day -1", x.sum(0, -1, 0), NONE);
        c.due("day behind NOW", x.sum(0, 101, 100), NONE);
        c.due("known -1", x.sum(0, 0, -1), NONE);
        c.due("known behind NOW", x.sum(0, 100, 101), NONE);
    }

    private static void belowZero() {
        SleepOffice x = office(100);
        x.account(0, 0, 0, 0);
        x.act(0, 0, 10, -7);
        c.due("below 0 counts as 0", x.sum(0, 10, 100), 0);
        x.act(0, 0, 11, 10);
        c.due("but goes on below it", x.sum(0, 11, 100), 3);
        x.grow(0, 11, 1, 2);
        c.due("-7 by 2 downwards is -4", x.sum(0, 11, 100), 6);
    }

    private static void asKnown() {
        SleepOffice x = office(100);
        x.account(0, 0, 0, 0);
        x.act(0, 0, 50, 1000);
        x.days(10);
        x.act(0, 0, 40, 500);
        x.days(10);
        x.grow(0, 45, 2, 1);
        c.due("known ahead of all", x.sum(0, 100, 99), 0);
        c.due("known as the first was told", x.sum(0, 100, 100), 1000);
        c.due("known a day ahead of the second", x.sum(0, 100, 109), 1000);
        c.due("known as the second was told", x.sum(0, 100, 110), 1500);
        c.due("known as the growth was told", x.sum(0, 100, 120), 2000);
        c.due("on the growth's day", x.sum(0, 45, 120), 1000);
        c.due("ahead of it", x.sum(0, 44, 120), 500);
    }

    private static void greatest() {
        SleepOffice x = office(100);
        x.account(0, 0, 0, 0);
        for (int i = 0; i < 400; i++) {
            x.act(0, 0, 0, 9999999);
        }
        for (int day = 1; day <= 4; day++) {
            x.grow(0, day, 9, 1);
        }
        c.due("beyond an int", x.sum(0, 100, 100), 400L * 9999999 * 6561);
    }

    /** Beyond the 512 calls that are promised; the limit must hold all the same, as it keeps the room small. */
    private static void sixHundred() {
        SleepOffice x = office(100);
        x.account(0, 0, 0, 0);
        x.account(0, 0, 0, 0);
        for (int i = 0; i < 4; i++) {
            c.due("growth " + i, x.grow(0, i, 1, 1), true);
        }
        for (int i = 4; i < 600; i++) {
            c.due("act " + i, x.act(i % 2, i % 6, i % 101, 1), true);
        }
        c.due("the 601st, an act", x.act(0, 0, 0, 1), false);
        c.due("the 601st, a growth", x.grow(1, 0, 1, 1), false);
        c.due("told", x.look(4), 600);
    }
}
