import java.util.function.BooleanSupplier;
import java.util.function.LongSupplier;

/** Promises 2 to 33: a call that can't be answers so, and nothing is done: all that can be seen stays as it was. */
public final class RefusedTest {
    private static final int NONE = SleepOffice.NONE;
    private static final int LEAST = -2147483648;
    private static final int GREATEST = 2147483647;
    private static final Checks c = new Checks("RefusedTest");

    public static void main(String[] args) {
        SleepOffice x = office();
        days(x);
        firms(x);
        persons(x);
        accounts(x);
        entries(x);
        tape(x);
        laws(x);
        reports(x);
        joinings(x);
        claims(x);
        years(x);
        questions(x);
        full();
        c.finish();
    }

    private static void no(SleepOffice x, String call, BooleanSupplier asked) {
        none(x, call, () -> asked.getAsBoolean() ? 1 : 0, 0);
    }

    private static void none(SleepOffice x, String call, LongSupplier asked) {
        none(x, call, asked, NONE);
    }

    private static void none(SleepOffice x, String call, LongSupplier asked, long want) {
        String before = Seen.of(x);
        c.due(call, asked.getAsLong(), want);
        c.due(call + " does nothing", Seen.of(x).equals(before), true);
    }

    /**
     * On DAY 3000. Firm 0 is merged into 1 on 100; 1, 2 are not. Person 0 (born 20) lives and has the children 1, 2;
     * 3 died on 50 and has the child 4. Account 0 (firm 2, of 0) and 1 (firm 2, of 3) are held; 2 began on 2990.
     * Claim 0 is paid and good, 1 open and good, but its person was paid; 2 taken back; 3 open and not good.
     */
    private static SleepOffice office() {
        SleepOffice x = Checks.officeOn(3000);
        x.firm(0);
        x.firm(1);
        x.firm(2);
        x.merge(0, 1, 100);
        x.person(1, 20, 0, 7, NONE);
        x.person(1, 20, NONE, NONE, 0);
        x.person(2, NONE, 0, 7, 0);
        x.person(3, 20, NONE, NONE, NONE);
        x.person(4, NONE, NONE, NONE, 3);
        x.account(2, 1, 0, 10);
        x.account(2, 0, 3, 10);
        x.account(2, 0, 0, 2990);
        x.act(0, 0, 10, 1000);
        x.act(1, 0, 10, 2000);
        x.act(2, 0, 2990, 3000);
        x.grow(2, 2991, 2, 1);
        Checks.read(x, 0, "sleep 1 3;act 0;letter 40;fee 20;interest 30 10;proof 5;");
        x.report(2);
        x.claim(0, 0, 5, 10);
        x.claim(0, 0, 6, 10);
        x.claim(3, 1, 0, 0);
        x.claim(1, 0, 99, 0);
        x.pay(0);
        x.pay(2);
        x.dies(3, 50);
        x.back(2);
        x.figure(2, 3, 500);
        x.figure(2, 9, 100);
        x.costs(4, 30);
        Checks.read(x, 3, "fee 1;oops");
        Checks.type(x, "fee 7;");
        c.due("claim 0 is paid", x.claimOf(0, 6), 1);
        c.due("claim 1 is open and good", x.claimOf(1, 3), 1);
        c.due("claim 2 is taken back", x.claimOf(2, 6), 2);
        return x;
    }

    private static void days(SleepOffice x) {
        for (int n : new int[] {LEAST, -1, 0, 10000, GREATEST}) {
            none(x, "days(" + n + ")", () -> x.days(n));
        }
        SleepOffice late = Checks.officeOn(10001);
        none(late, "days(9999) to 20000", () -> late.days(9999));
        c.due("days(9998) to 19999", late.days(9998), 19999);
        none(late, "days(1) behind the last one", () -> late.days(1));
    }

    private static void firms(SleepOffice x) {
        for (int state : new int[] {LEAST, -1, 4, GREATEST}) {
            none(x, "firm(" + state + ")", () -> x.firm(state));
        }
        for (int f : new int[] {LEAST, -1, 3, GREATEST}) {
            no(x, "merge(" + f + ", 1, 200)", () -> x.merge(f, 1, 200));
            no(x, "merge(2, " + f + ", 200)", () -> x.merge(2, f, 200));
            none(x, "firmOn(" + f + ", 200)", () -> x.firmOn(f, 200));
        }
        for (int day : new int[] {LEAST, -1, 3001, 19999, GREATEST}) {
            no(x, "merge(2, 1, " + day + ")", () -> x.merge(2, 1, day));
        }
        for (int day : new int[] {LEAST, -1, 20000, GREATEST}) {
            none(x, "firmOn(0, " + day + ")", () -> x.firmOn(0, day));
        }
        no(x, "merge into itself", () -> x.merge(2, 2, 200));
        no(x, "merge again", () -> x.merge(0, 2, 200));
        no(x, "merge again, as it was", () -> x.merge(0, 1, 100));
        no(x, "merge into one merged on that day", () -> x.merge(2, 0, 100));
        no(x, "merge into one merged ahead of it", () -> x.merge(2, 0, 101));
        no(x, "merge of one that took another on that day", () -> x.merge(1, 2, 100));
        no(x, "merge of one that took another behind it", () -> x.merge(1, 2, 99));
        no(x, "merge back into its own", () -> x.merge(1, 0, 99));
    }

    private static void persons(SleepOffice x) {
        for (int n : new int[] {LEAST, -2, GREATEST}) {
            none(x, "name " + n, () -> x.person(n, 1, 1, 1, 1));
            none(x, "born " + n, () -> x.person(1, n, 1, 1, 1));
            none(x, "home " + n, () -> x.person(1, 1, n, 1, 1));
            none(x, "mark " + n, () -> x.person(1, 1, 1, n, 1));
            none(x, "parent " + n, () -> x.person(1, 1, 1, 1, n));
            no(x, "moves(0, " + n + ")", () -> x.moves(0, n));
        }
        none(x, "name NONE", () -> x.person(NONE, 1, 1, 1, 1));
        none(x, "name 100", () -> x.person(100, 1, 1, 1, 1));
        none(x, "born behind NOW", () -> x.person(1, 3001, 1, 1, 1));
        none(x, "home 4", () -> x.person(1, 1, 4, 1, 1));
        none(x, "mark 10000", () -> x.person(1, 1, 1, 10000, 1));
        none(x, "parent itself", () -> x.person(1, 1, 1, 1, 5));
        no(x, "moves(0, 4)", () -> x.moves(0, 4));
        for (int p : new int[] {LEAST, -1, 5, 24, GREATEST}) {
            no(x, "dies(" + p + ", 60)", () -> x.dies(p, 60));
            no(x, "moves(" + p + ", 1)", () -> x.moves(p, 1));
        }
        no(x, "dies ahead of BORN", () -> x.dies(0, 19));
        no(x, "dies behind NOW", () -> x.dies(0, 3001));
        no(x, "dies, BORN not known, on -1", () -> x.dies(2, -1));
        no(x, "dies on the greatest day", () -> x.dies(2, GREATEST));
        no(x, "dies on the least day", () -> x.dies(2, LEAST));
        no(x, "dies again, later", () -> x.dies(3, 60));
        no(x, "dies again, as it did", () -> x.dies(3, 50));
    }

    private static void accounts(SleepOffice x) {
        for (int n : new int[] {LEAST, -1, GREATEST}) {
            none(x, "account, firm " + n, () -> x.account(n, 0, 0, 0));
            none(x, "account, kind " + n, () -> x.account(2, n, 0, 0));
            none(x, "account, owner " + n, () -> x.account(2, 0, n, 0));
            none(x, "account, day " + n, () -> x.account(2, 0, 0, n));
        }
        none(x, "account, firm 3", () -> x.account(3, 0, 0, 0));
        none(x, "account, kind 4", () -> x.account(2, 4, 0, 0));
        none(x, "account, owner 5", () -> x.account(2, 0, 5, 0));
        none(x, "account, day behind NOW", () -> x.account(2, 0, 0, 3001));
        none(x, "account, firm merged on that day", () -> x.account(0, 0, 0, 100));
        none(x, "account, firm merged by that day", () -> x.account(0, 0, 0, 3000));
    }

    private static void entries(SleepOffice x) {
        for (int n : new int[] {LEAST, -1, 3, 40, GREATEST}) {
            no(x, "act, account " + n, () -> x.act(n, 0, 3000, 1));
            no(x, "grow, account " + n, () -> x.grow(n, 3000, 1, 1));
        }
        for (int n : new int[] {LEAST, -1, 6, GREATEST}) {
            no(x, "act, sort " + n, () -> x.act(2, n, 3000, 1));
        }
        for (int n : new int[] {LEAST, -1, 2989, 3001, GREATEST}) {
            no(x, "act, day " + n, () -> x.act(2, 0, n, 1));
            no(x, "grow, day " + n, () -> x.grow(2, n, 1, 1));
        }
        for (int n : new int[] {LEAST, -10000000, 10000000, GREATEST}) {
            no(x, "act, amount " + n, () -> x.act(2, 0, 3000, n));
        }
        for (int n : new int[] {LEAST, -1, 0, 10, GREATEST}) {
            no(x, "grow, up " + n, () -> x.grow(2, 3000, n, 1));
            no(x, "grow, by " + n, () -> x.grow(2, 3000, 1, n));
        }
        no(x, "grow on that day again", () -> x.grow(2, 2991, 1, 1));
    }

    private static void tape(SleepOffice x) {
        for (int n : new int[] {LEAST, -1, 7, 600, 601, GREATEST}) {
            no(x, "end(" + n + ")", () -> x.end(n));
        }
        SleepOffice full = new SleepOffice();
        Checks.type(full, "fee 9;" + " ".repeat(575));
        none(full, "feed to 601", () -> full.feed(GREATEST, 0, 0, 0, 0));
        c.due("the refused one did not come", full.reads(0), 1);
        c.due("nor change what there was", full.told(0, 6), 9);
    }

    /** The tape is emptied by reads() in each case; law and fault stay for a state that is none such. */
    private static void laws(SleepOffice x) {
        for (int s : new int[] {LEAST, -1, 4, GREATEST}) {
            x.end(0);
            none(x, "reads(" + s + ") of nothing", () -> x.reads(s));
            Checks.type(x, "letter 77;");
            c.due("reads(" + s + ")", x.reads(s), NONE);
            c.due("fault as before", x.fault(0), 1);
            c.due("its place as before", x.fault(1), 6);
            none(x, "told(" + s + ", 0)", () -> x.told(s, 0));
        }
        for (int s = 0; s < 4; s++) {
            int letter = x.told(s, 5);
            c.due("reads of a fault, state " + s, Checks.read(x, s, "letter 77;sleep 4 1;"), NONE);
            c.due("the fault", x.fault(0), 2);
            c.due("the law stays", x.told(s, 5), letter);
        }
        for (int what : new int[] {LEAST, -1, 2, GREATEST}) {
            none(x, "fault(" + what + ")", () -> x.fault(what));
        }
        for (int what : new int[] {LEAST, -1, 9, GREATEST}) {
            none(x, "told(0, " + what + ")", () -> x.told(0, what));
        }
        Checks.type(x, "fee 7;");
    }

    private static void reports(SleepOffice x) {
        for (int f : new int[] {LEAST, -1, 3, 8, GREATEST}) {
            none(x, "report(" + f + ")", () -> x.report(f));
        }
        none(x, "report of one that is merged", () -> x.report(0));
        none(x, "report of one without accounts", () -> x.report(1), 0);
        none(x, "report again", () -> x.report(2), 0);
    }

    private static void joinings(SleepOffice x) {
        for (int p : new int[] {LEAST, -1, 5, 24, GREATEST}) {
            none(x, "points(0, " + p + ")", () -> x.points(0, p), NONE - 1);
            none(x, "points(" + p + ", 0)", () -> x.points(p, 0), NONE - 1);
            none(x, "joined(3, 0, " + p + ")", () -> x.joined(3, 0, p));
            none(x, "joined(3, " + p + ", 0)", () -> x.joined(3, p, 0));
        }
        none(x, "points(4, 4)", () -> x.points(4, 4), NONE - 1);
        for (int set : new int[] {LEAST, -1, 0, 32, 33, 1 << 24, 1 << 30, GREATEST}) {
            none(x, "join(" + set + ", 0)", () -> x.join(set, 0), NONE - 9999);
            none(x, "join(" + set + ", 1)", () -> x.join(set, 1), NONE - 9999);
            none(x, "joined(" + set + ", 0, 1)", () -> x.joined(set, 0, 1));
        }
        for (int what : new int[] {LEAST, -1, 2, GREATEST}) {
            none(x, "join(3, " + what + ")", () -> x.join(3, what), NONE - 9999);
        }
        none(x, "joined with itself", () -> x.joined(3, 1, 1));
        none(x, "joined, one that is not of the set", () -> x.joined(3, 0, 2));
    }

    private static void claims(SleepOffice x) {
        for (int n : new int[] {LEAST, -1, GREATEST}) {
            none(x, "claim, person " + n, () -> x.claim(n, 0, 0, 0));
            none(x, "claim, account " + n, () -> x.claim(0, n, 0, 0));
            none(x, "claim, points " + n, () -> x.claim(0, 0, n, 0));
            none(x, "claim, fee " + n, () -> x.claim(0, 0, 0, n));
        }
        none(x, "claim, person 5", () -> x.claim(5, 0, 0, 0));
        none(x, "claim, account 3", () -> x.claim(0, 3, 0, 0));
        none(x, "claim, account not held", () -> x.claim(0, 2, 0, 0));
        none(x, "claim, points 100", () -> x.claim(0, 0, 100, 0));
        none(x, "claim, fee 101", () -> x.claim(0, 0, 0, 101));
        for (int n : new int[] {LEAST, -1, 4, 60, GREATEST}) {
            none(x, "pay(" + n + ")", () -> x.pay(n));
            none(x, "back(" + n + ")", () -> x.back(n));
            none(x, "claimOf(" + n + ", 0)", () -> x.claimOf(n, 0));
        }
        none(x, "pay again", () -> x.pay(0));
        none(x, "pay one whose person was paid", () -> x.pay(1));
        none(x, "pay one taken back", () -> x.pay(2));
        none(x, "pay one that is not good", () -> x.pay(3));
        none(x, "back of a good one", () -> x.back(0));
        none(x, "back of an open one that is good", () -> x.back(1));
        none(x, "back again", () -> x.back(2));
        none(x, "back of an open one that is not good", () -> x.back(3));
    }

    private static void years(SleepOffice x) {
        for (int n : new int[] {LEAST, -2, GREATEST}) {
            no(x, "figure, firm " + n, () -> x.figure(n, 0, 1));
            no(x, "figure, year " + n, () -> x.figure(2, n, 1));
            no(x, "figure, value " + n, () -> x.figure(2, 3, n));
            no(x, "costs, year " + n, () -> x.costs(n, 5));
            no(x, "costs, cost " + n, () -> x.costs(4, n));
            none(x, "looks, firm " + n, () -> x.looks(n, 1, 1, 0));
            none(x, "looks, k " + n, () -> x.looks(2, n, 1, 0));
            none(x, "looks, purse " + n, () -> x.looks(2, 1, n, 0));
            none(x, "looks, what " + n, () -> x.looks(2, 1, 1, n));
            none(x, "audit, firm " + n, () -> x.audit(n, 0));
            none(x, "audit, what " + n, () -> x.audit(2, n));
        }
        no(x, "figure, firm NONE", () -> x.figure(NONE, 0, 1));
        no(x, "figure, firm 3", () -> x.figure(3, 0, 1));
        no(x, "figure, year -1", () -> x.figure(2, -1, 1));
        no(x, "figure, year 20", () -> x.figure(2, 20, 1));
        no(x, "figure, value 1000000", () -> x.figure(2, 3, 1000000));
        no(x, "costs, year -1", () -> x.costs(-1, 5));
        no(x, "costs, year 20", () -> x.costs(20, 5));
        no(x, "costs, cost 0", () -> x.costs(4, 0));
        no(x, "costs, cost -1", () -> x.costs(4, -1));
        no(x, "costs, cost 100", () -> x.costs(4, 100));
        none(x, "looks, firm 3", () -> x.looks(3, 1, 1, 0));
        none(x, "looks, k -1", () -> x.looks(2, -1, 1, 0));
        none(x, "looks, k 21", () -> x.looks(2, 21, 1, 0));
        none(x, "looks, purse -1", () -> x.looks(2, 1, -1, 0));
        none(x, "looks, purse 1000", () -> x.looks(2, 1, 1000, 0));
        none(x, "looks, what 3", () -> x.looks(2, 1, 1, 3));
        for (int what : new int[] {-1, 2, 9, 30, 39, 60}) {
            none(x, "audit(2, " + what + ")", () -> x.audit(2, what));
        }
        none(x, "audit, firm 3", () -> x.audit(3, 0));
    }

    private static void questions(SleepOffice x) {
        for (int n : new int[] {LEAST, -1, 3, 40, GREATEST}) {
            none(x, "sum(" + n + ", 0, 0)", () -> x.sum(n, 0, 0));
            none(x, "sleep(" + n + ", 0, 0)", () -> x.sleep(n, 0, 0), NONE - 99999);
            none(x, "held(" + n + ", 0)", () -> x.held(n, 0));
        }
        for (int day : new int[] {LEAST, -1, 3001, GREATEST}) {
            none(x, "sum(0, " + day + ", 0)", () -> x.sum(0, day, 0));
            none(x, "sum(0, 0, " + day + ")", () -> x.sum(0, 0, day));
            none(x, "sleep(0, " + day + ", 0)", () -> x.sleep(0, day, 0), NONE - 99999);
        }
        for (int what : new int[] {LEAST, -1, 9, GREATEST}) {
            none(x, "look(" + what + ")", () -> x.look(what));
            none(x, "sleep(0, 0, " + what + ")", () -> x.sleep(0, 0, what), NONE - 99999);
            none(x, "held(0, " + what + ")", () -> x.held(0, what));
            none(x, "claimOf(0, " + what + ")", () -> x.claimOf(0, what));
            none(x, "share(3, 4, " + what + ")", () -> x.share(3, 4, what));
        }
        none(x, "held of one not held", () -> x.held(2, 0));
        for (int p : new int[] {LEAST, -1, 5, 24, GREATEST}) {
            none(x, "heirs(" + p + ")", () -> x.heirs(p));
            none(x, "share(" + p + ", 4, 0)", () -> x.share(p, 4, 0));
            none(x, "share(3, " + p + ", 0)", () -> x.share(3, p, 0));
        }
        none(x, "heirs of one that lives", () -> x.heirs(0));
        none(x, "share in one that lives", () -> x.share(0, 1, 0));
    }

    private static void full() {
        SleepOffice x = office();
        while (x.look(1) < 8) {
            x.firm(3);
        }
        while (x.look(2) < 24) {
            x.person(9, NONE, NONE, NONE, NONE);
        }
        while (x.look(3) < 40) {
            x.account(2, 0, 0, 2999);
        }
        while (x.look(8) < 60) {
            x.claim(1, 0, 0, 0);
        }
        for (int day = 2992; day < 2995; day++) {
            c.due("growth on " + day, x.grow(2, day, 1, 1), true);
        }
        none(x, "the 9th firm", () -> x.firm(0));
        none(x, "the 25th person", () -> x.person(1, NONE, NONE, NONE, NONE));
        none(x, "the 41st account", () -> x.account(2, 0, 0, 0));
        none(x, "the 61st claim", () -> x.claim(0, 0, 5, 0));
        no(x, "the 5th growth", () -> x.grow(2, 2995, 1, 1));
        while (x.look(4) < 600) {
            x.act(39, 0, 3000, 1);
        }
        no(x, "the 601st act", () -> x.act(39, 0, 3000, 1));
        no(x, "a growth as the 601st", () -> x.grow(39, 3000, 1, 1));
    }
}
