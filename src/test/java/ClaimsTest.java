/** Promises 26 to 29: claim, claimOf, pay, back. */
public final class ClaimsTest {
    private static final int NONE = SleepOffice.NONE;
    private static final Checks c = new Checks("ClaimsTest");

    public static void main(String[] args) {
        claim();
        claimOf();
        proofs();
        proofNames();
        wraps();
        payOwner();
        payHeirs();
        waits();
        back();
        fees();
        payNothing();
        sixty();
        c.finish();
    }

    /** Owner 0 with children 1, 2 and 3's parent 1; account 0 of 1001 is held on 2000 by state 0. */
    private static SleepOffice office() {
        SleepOffice x = Checks.officeOn(2000);
        x.firm(0);
        x.person(0, NONE, NONE, NONE, NONE);
        x.person(0, NONE, NONE, NONE, 0);
        x.person(0, NONE, NONE, NONE, 0);
        x.person(0, NONE, NONE, NONE, 1);
        x.account(0, 2, 0, 0);
        x.act(0, 0, 0, 1001);
        x.report(0);
        x.account(0, 0, 0, 1999);
        return x;
    }

    private static void claim() {
        SleepOffice x = office();
        c.due("person -1", x.claim(-1, 0, 0, 0), NONE);
        c.due("person 4", x.claim(4, 0, 0, 0), NONE);
        c.due("account -1", x.claim(0, -1, 0, 0), NONE);
        c.due("account 2", x.claim(0, 2, 0, 0), NONE);
        c.due("account that is not held", x.claim(0, 1, 0, 0), NONE);
        c.due("points -1", x.claim(0, 0, -1, 0), NONE);
        c.due("points 100", x.claim(0, 0, 100, 0), NONE);
        c.due("fee -1", x.claim(0, 0, 0, -1), NONE);
        c.due("fee 101", x.claim(0, 0, 0, 101), NONE);
        c.due("none came", x.look(8), 0);
        c.due("the greatest", x.claim(3, 0, 99, 100), 0);
        c.due("the least", x.claim(0, 0, 0, 0), 1);
    }

    private static void claimOf() {
        SleepOffice x = office();
        Checks.read(x, 0, "proof 4;fee 50;");
        x.claim(0, 0, 4, 20);
        long[] open = {0, 0, 4, 1, 0, 0, 0};
        long[] paid = {0, 0, 4, 1, 1001, 200, 1};
        long[] taken = {0, 0, 4, 0, 1001, 200, 2};
        all(x, "open", open);
        c.due("pay", x.pay(0), 1001);
        all(x, "paid", paid);
        x.dies(0, 2000);
        c.due("back", x.back(0), 1001);
        all(x, "taken back", taken);
        c.due("claimOf(0, 7)", x.claimOf(0, 7), NONE);
        c.due("claimOf(0, -1)", x.claimOf(0, -1), NONE);
        c.due("claimOf(1, 0)", x.claimOf(1, 0), NONE);
        c.due("claimOf(-1, 0)", x.claimOf(-1, 0), NONE);
    }

    private static void all(SleepOffice x, String when, long[] want) {
        for (int what = 0; what < want.length; what++) {
            c.due("claimOf(0, " + what + ") " + when, x.claimOf(0, what), want[what]);
        }
    }

    private static void proofs() {
        asks("", 0);
        asks("proof 3;", 3);
        asks("proof 3;proof 7;proof 5;", 7);
        asks("proof 3-5;", 0);
        asks("proof 2+3*4;", 14);
        asks("proof (2+3)*4;", 20);
        asks("proof 20-5-4;", 11);
        asks("proof 20-(5-4);", 19);
        asks("proof 7/2*2;", 6);
        asks("proof 7/1;", 7);
        asks("proof 12-(1-8)/2;", 15);
        asks("proof 100/7/3;", 4);
        asks("proof 10+(1-8)/2;", 7);
        asks("proof 1;proof 9 when 1>2;", 1);
        asks("proof 1;proof 9 when 1<2;", 9);
        asks("proof 9 when 2=2;", 9);
        asks("proof 9 when 2<2 or 2>2;", 0);
        asks("proof 9 when not 2<2;", 9);
        asks("proof 9 when not not 2<2;", 0);
        asks("proof 9 when 1=1 or 1=1 and 1=2;", 9);
        asks("proof 9 when 1=2 and 1=1 or 1=1;", 9);
        asks("proof 9 when 1=2 and 1=1 or 1=2 and 1=1;", 0);
        asks("proof 9 when 1=1 and 1=1 and 1=2 or 1=2 or 1=1;", 9);
        asks("proof 9 when not 1=2 and 1=2;", 0);
        asks("proof 9 when not 1=1 or 1=1;", 9);
        asks("proof 9 when not 1=2 and 1=1;", 9);
        asks("proof 9 when not 1=2 and 1<2;", 9);
        asks("proof 9 when 1<2 and 2>1;", 9);
        asks("proof 9 when 2>1 and 1=1 and 1<2;", 9);
        asks("proof 9 when 1+1=2*1 and (3)>(1+1);", 9);
        asks("fee 1;proof 2;sleep 1 1;proof 6 when kind=2;", 6);
    }

    private static void proofNames() {
        asks("proof sum;", 1001);
        asks("proof sum/100+kind;", 12);
        asks("proof years;", 1);
        asks("proof heirs;", 0);
        SleepOffice x = office();
        Checks.read(x, 0, "proof heirs*10+years;");
        x.claim(2, 0, 30, 0);
        c.due("the owner lives", x.claimOf(0, 2), 0);
        x.dies(0, 5);
        c.due("two heirs", x.claimOf(0, 2), 20);
        c.due("an heir's claim is good", x.claimOf(0, 3), 1);
        x.days(360);
        x.person(0, NONE, NONE, NONE, 0);
        c.due("three heirs, a year", x.claimOf(0, 2), 31);
        c.due("not good any more", x.claimOf(0, 3), 0);
        Checks.read(x, 0, "proof 30;");
        c.due("good by the law NOW", x.claimOf(0, 3), 1);
        x.moves(0, 1);
        Checks.read(x, 1, "proof 99;");
        c.due("by the state that holds it", x.claimOf(0, 2), 30);
    }

    private static void wraps() {
        asks("proof 99999*99999;", 99999 * 99999);
        asks("proof 0-99999*99999;", 0);
        asks("proof 9 when 99999*30000>0;", 0);
        SleepOffice x = Checks.officeOn(2000);
        x.firm(0);
        x.person(0, NONE, NONE, NONE, NONE);
        x.account(0, 0, 0, 0);
        for (int i = 0; i < 40; i++) {
            x.act(0, 0, 0, 9999999);
        }
        x.grow(0, 1, 9, 1);
        x.report(0);
        x.claim(0, 0, 0, 0);
        Checks.read(x, 0, "proof sum;");
        c.due("sum at most", x.claimOf(0, 2), 2147483647);
        Checks.read(x, 0, "proof 7 when sum+1<0;");
        c.due("sum wraps", x.claimOf(0, 2), 7);
    }

    /** What a claim on 1001 of kind 2, held for 719 days, is asked. */
    private static void asks(String law, int points) {
        SleepOffice x = office();
        x.days(719);
        Checks.read(x, 0, law);
        x.claim(0, 0, 0, 0);
        c.due("points asked by '" + law + "'", x.claimOf(0, 2), points);
    }

    private static void payOwner() {
        SleepOffice x = office();
        Checks.read(x, 0, "proof 5;");
        x.claim(0, 0, 4, 0);
        x.claim(1, 0, 9, 0);
        x.claim(0, 0, 5, 0);
        x.claim(0, 0, 6, 0);
        c.due("pay(-1)", x.pay(-1), NONE);
        c.due("pay(4)", x.pay(4), NONE);
        c.due("too few points", x.pay(0), NONE);
        c.due("no heir while the owner lives", x.pay(1), NONE);
        c.due("as many as asked", x.pay(2), 1001);
        c.due("not open any more", x.pay(2), NONE);
        c.due("paid by another one", x.pay(3), NONE);
        c.due("all that is paid", x.held(0, 5), 1001);
    }

    private static void payHeirs() {
        SleepOffice x = office();
        x.claim(0, 0, 0, 0);
        x.claim(2, 0, 0, 0);
        x.claim(3, 0, 0, 0);
        x.dies(0, 2000);
        c.due("the owner that died", x.pay(0), NONE);
        c.due("a child of one that lives", x.pay(2), NONE);
        c.due("a child", x.pay(1), 500);
        x.dies(1, 2000);
        c.due("a child of one that died", x.pay(2), 500);
        c.due("paid in all", x.held(0, 5), 1000);
    }

    private static void waits() {
        SleepOffice x = office();
        Checks.read(x, 0, "interest 100 1;");
        x.claim(0, 0, 0, 0);
        x.claim(1, 0, 0, 0);
        c.due("the owner is paid all", x.pay(0), 1001);
        x.dies(0, 2000);
        c.due("an heir waits", x.pay(1), NONE);
        c.due("its claim is open", x.claimOf(1, 6), 0);
        x.days(360);
        c.due("interest does not do", x.pay(1), NONE);
        c.due("taken back", x.back(0), 1001);
        c.due("paid now, with interest", x.pay(1), (1001 + 100) / 2);
        c.due("by interest NOW", x.held(0, 4), 100);
    }

    private static void back() {
        SleepOffice x = office();
        x.claim(0, 0, 3, 0);
        c.due("back(-1)", x.back(-1), NONE);
        c.due("back(1)", x.back(1), NONE);
        c.due("one that is open", x.back(0), NONE);
        x.pay(0);
        c.due("one that is good", x.back(0), NONE);
        Checks.read(x, 0, "proof 4;");
        c.due("one that the law made bad", x.back(0), 1001);
        c.due("one that was taken back", x.back(0), NONE);
        c.due("its standing", x.claimOf(0, 6), 2);
        Checks.read(x, 0, "");
        c.due("it is not paid again", x.pay(0), NONE);
        x.claim(0, 0, 0, 0);
        c.due("but another one is", x.pay(1), 1001);
    }

    private static void fees() {
        feeOf("", 100, 100);
        feeOf("", 10, 100);
        feeOf("", 9, 90);
        feeOf("fee 0;", 50, 0);
        feeOf("fee 100;", 100, 1001);
        feeOf("fee 33;", 34, 330);
        feeOf("fee 33;", 32, 320);
    }

    private static void feeOf(String law, int told, int want) {
        SleepOffice x = office();
        Checks.read(x, 0, law);
        x.claim(0, 0, 0, told);
        c.due("all by '" + law + "'", x.pay(0), 1001);
        c.due("finder's by '" + law + "' for " + told, x.claimOf(0, 5), want);
        Checks.read(x, 0, "fee 77;");
        c.due("it stays", x.claimOf(0, 5), want);
    }

    private static void payNothing() {
        SleepOffice x = Checks.officeOn(2000);
        x.firm(0);
        x.person(0, NONE, NONE, NONE, NONE);
        x.account(0, 0, 0, 0);
        x.report(0);
        x.claim(0, 0, 0, 0);
        x.claim(0, 0, 0, 0);
        c.due("nothing is paid", x.pay(0), 0);
        c.due("but paid it is", x.claimOf(0, 6), 1);
        c.due("and once", x.pay(1), NONE);
    }

    private static void sixty() {
        SleepOffice x = office();
        for (int i = 0; i < 60; i++) {
            c.due("claim " + i, x.claim(i % 4, 0, 0, 0), i);
        }
        c.due("the 61st", x.claim(0, 0, 0, 0), NONE);
        c.due("claims", x.look(8), 60);
    }
}
