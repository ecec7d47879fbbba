/** Promises 13 to 18: feed, end, reads, fault, told, sleep. */
public final class LawTest {
    private static final int NONE = SleepOffice.NONE;
    private static final int NEVER = SleepOffice.NONE - 99999;
    private static final Checks c = new Checks("LawTest");

    public static void main(String[] args) {
        tape();
        bytesInOrder();
        bytesBehindTheEnd();
        readsAndTold();
        latestCounts();
        tapeIsEmptyThen();
        lawStays();
        cannotStand();
        outOfRange();
        tooMany();
        leastAtOnePlace();
        spelling();
        sleep();
        sleepAsKnown();
        sleepOfMerged();
        c.finish();
    }

    private static void tape() {
        SleepOffice x = new SleepOffice();
        for (int n = 20; n <= 600; n += 20) {
            c.due("feed to " + n, x.feed(0, 0, 0, 0, 0), n);
        }
        c.due("feed beyond 600", x.feed(0, 0, 0, 0, 0), NONE);
        c.due("end(601)", x.end(601), false);
        c.due("end(-1)", x.end(-1), false);
        c.due("end(600)", x.end(600), true);
        c.due("end(581)", x.end(581), true);
        c.due("end(582)", x.end(582), false);
        c.due("feed of 20 to 581", x.feed(0, 0, 0, 0, 0), NONE);
        c.due("end(580)", x.end(580), true);
        c.due("feed of 20 to 580", x.feed(0, 0, 0, 0, 0), 600);
        c.due("end(0)", x.end(0), true);
        c.due("feed to none", x.feed(0, 0, 0, 0, 0), 20);
    }

    private static void bytesInOrder() {
        SleepOffice x = new SleepOffice();
        // "fee 37;letter 812;\n\n"
        x.feed(0x66656520, 0x33373b6c, 0x65747465, 0x72203831, 0x323b0a0a);
        c.due("reads", x.reads(2), 2);
        c.due("fee", x.told(2, 6), 37);
        c.due("letter", x.told(2, 5), 812);
    }

    /** What end() cut off is no part of the text, not even of a word or a number that it parts. */
    private static void bytesBehindTheEnd() {
        String[] texts = {"feex", "fee 1001", "fee 100000", "proof 1 when 1<2 order"};
        int[] length = {3, 7, 9, 19};
        int[][] faults = {{1, 3}, {1, 7}, {2, 4}, {1, 19}};
        for (int i = 0; i < texts.length; i++) {
            SleepOffice x = new SleepOffice();
            Checks.type(x, texts[i]);
            c.due("end within a word", x.end(length[i]), true);
            c.due("reads", x.reads(0), NONE);
            c.due("fault(0) of '" + texts[i] + "' cut to " + length[i], x.fault(0), faults[i][0]);
            c.due("fault(1) of '" + texts[i] + "' cut to " + length[i], x.fault(1), faults[i][1]);
        }
        SleepOffice x = new SleepOffice();
        Checks.type(x, "fee 7;fee 8;");
        c.due("end between lines", x.end(6), true);
        c.due("one line", x.reads(0), 1);
        c.due("the first one", x.told(0, 6), 7);
        c.due("an empty tape has none of them", x.reads(0), 0);
        c.due("all is plain", x.told(0, 6), 10);
    }

    private static void readsAndTold() {
        SleepOffice x = new SleepOffice();
        String text = "sleep 0 1;sleep 3 40;act 5;act 0;act 5;letter 999;fee 100;interest 200 40;proof 1;";
        c.due("reads", Checks.read(x, 3, text), 9);
        int[] want = {1, 5, 5, 40, 33, 999, 100, 200, 40};
        for (int what = 0; what < want.length; what++) {
            c.due("told(3, " + what + ")", x.told(3, what), want[what]);
        }
        c.due("told(3, 9)", x.told(3, 9), NONE);
        c.due("told(3, -1)", x.told(3, -1), NONE);
        c.due("told(-1, 0)", x.told(-1, 0), NONE);
        c.due("told(4, 0)", x.told(4, 0), NONE);
        c.due("told of another state", x.told(2, 5), 30);
        c.due("fault(0)", x.fault(0), 0);
        c.due("fault(1)", x.fault(1), NONE);
        c.due("fault(2)", x.fault(2), NONE);
        c.due("fault(-1)", x.fault(-1), NONE);
        c.due("a law of no line", Checks.read(x, 3, " \n "), 0);
        c.due("all is plain again", x.told(3, 4), 63);
        c.due("zeros", Checks.read(x, 0, "sleep 0 0;letter 0;fee 0;interest 0 0;"), 4);
        c.due("sleep 0", x.told(0, 0), 0);
        c.due("letter 0", x.told(0, 5), 0);
        c.due("fee 0", x.told(0, 6), 0);
    }

    private static void latestCounts() {
        SleepOffice x = new SleepOffice();
        String text = "sleep 1 7;letter 1;fee 1;interest 1 1;sleep 1 8;sleep 2 9;letter 2;fee 2;interest 2 3;";
        c.due("reads", Checks.read(x, 1, text), 9);
        int[] want = {5, 8, 9, 5, 63, 2, 2, 2, 3};
        for (int what = 0; what < want.length; what++) {
            c.due("told(1, " + what + ")", x.told(1, what), want[what]);
        }
    }

    private static void tapeIsEmptyThen() {
        SleepOffice x = new SleepOffice();
        Checks.type(x, "fee 1;");
        x.reads(0);
        c.due("empty behind a law", x.end(1), false);
        Checks.type(x, "fee");
        x.reads(0);
        c.due("empty behind a fault", x.end(1), false);
        Checks.type(x, "fee 1;");
        c.due("reads(4)", x.reads(4), NONE);
        c.due("empty behind a state that is none", x.end(1), false);
        c.due("reads(-1)", x.reads(-1), NONE);
        c.due("the fault is that of the latest reads of 0 .. 3", x.fault(0), 1);
        c.due("its place", x.fault(1), 3);
    }

    private static void lawStays() {
        SleepOffice x = new SleepOffice();
        Checks.read(x, 0, "fee 7;sleep 2 3;");
        c.due("a fault", Checks.read(x, 0, "fee 8;sleep 2 4;act"), NONE);
        c.due("fee stays", x.told(0, 6), 7);
        c.due("sleep stays", x.told(0, 2), 3);
        Checks.read(x, 0, "sleep 1 2;");
        c.due("a new law forgets the one before", x.told(0, 6), 10);
        c.due("and its sleep", x.told(0, 2), 5);
    }

    private static void cannotStand() {
        faultIn("sleep", 1, 5);
        faultIn("sleep   ", 1, 8);
        faultIn("sleep 1", 1, 7);
        faultIn("sleep 1 2", 1, 9);
        faultIn("sleep 1;", 1, 7);
        faultIn("sleep 1 2 3;", 1, 10);
        faultIn(";", 1, 0);
        faultIn("fee 1;;", 1, 6);
        faultIn("fee -1;", 1, 4);
        faultIn("when 1;", 1, 0);
        faultIn("sum;", 1, 0);
        faultIn("12;", 1, 0);
        faultIn("fee sum;", 1, 4);
        faultIn("fee 1", 1, 5);
        faultIn("proof;", 1, 5);
        faultIn("proof 1+;", 1, 8);
        faultIn("proof -1;", 1, 6);
        faultIn("proof 1 2;", 1, 8);
        faultIn("proof sum/kind;", 1, 10);
        faultIn("proof 6/(2);", 1, 8);
        faultIn("proof (1;", 1, 8);
        faultIn("proof 1);", 1, 7);
        faultIn("proof ();", 1, 7);
        faultIn("proof 1 when;", 1, 12);
        faultIn("proof 1 when 2;", 1, 14);
        faultIn("proof 1 when 2<3<4;", 1, 16);
        faultIn("proof 1 when (2<3);", 1, 15);
        faultIn("proof 1 when 2<3 and;", 1, 20);
        faultIn("proof 1 when not;", 1, 16);
        faultIn("proof 1 when 1 = not 2;", 1, 17);
        faultIn("proof 1 when 2<3 when 2<3;", 1, 17);
        faultIn("proof not 1;", 1, 6);
        faultIn("proof 1 and 2;", 1, 8);
        faultIn("proof act;", 1, 6);
    }

    private static void outOfRange() {
        faultIn("sleep 4 1;", 2, 6);
        faultIn("sleep 3 41;", 2, 8);
        faultIn("act 6;", 2, 4);
        faultIn("letter 1000;", 2, 7);
        faultIn("fee 101;", 2, 4);
        faultIn("interest 201 1;", 2, 9);
        faultIn("interest 200 41;", 2, 13);
        faultIn("proof 1/0;", 2, 8);
        faultIn("proof 1/00000;", 2, 8);
        faultIn("proof 1 when 1/0 < 1;", 2, 15);
        faultIn("proof 1*0;", 0, NONE);
        faultIn("proof 99999/99999;", 0, NONE);
        faultIn("sleep 4", 2, 6);
        faultIn("sleep 4 99 nonsense", 2, 6);
        faultIn("fee 00100;", 0, NONE);
        faultIn("fee 000100;", 1, 4);
        faultIn("proof 100000;", 1, 6);
    }

    private static void tooMany() {
        String lines = "act 1;".repeat(24);
        faultIn(lines, 0, NONE);
        faultIn(lines + " \n ", 0, NONE);
        faultIn(lines + "act 1;", 3, 144);
        faultIn(lines + " fee", 3, 145);
        faultIn("proof ((((((((1))))))));", 0, NONE);
        faultIn("proof (((((((((1)))))))));", 3, 14);
        faultIn("proof ((((((((1))))))))+((((((((1))))))));", 0, NONE);
        faultIn("proof 1 when not not not not not not not not 1<2;", 0, NONE);
        faultIn("proof 1 when not not not not not not not not not 1<2;", 3, 45);
        faultIn("proof 1 when not not not not not not not (1)<2;", 0, NONE);
        faultIn("proof 1 when not not not not not not not ((1))<2;", 3, 42);
        faultIn("proof 1 when not not not not not not not 1<((2));", 3, 44);
        faultIn("proof 1 when not not not not not not not 1<2 and not not (1)<2;", 0, NONE);
        faultIn("proof 1 when ((((((((1))))))))<2 and not 1<2;", 0, NONE);
    }

    private static void leastAtOnePlace() {
        String lines = "act 1;".repeat(24);
        faultIn(lines + "1", 1, 144);
        faultIn(lines + "when", 1, 144);
        faultIn(lines + "Act", 1, 144);
        faultIn("proof ((((((((not", 1, 14);
        faultIn("proof ((((((((1(", 1, 15);
    }

    private static void spelling() {
        faultIn("fee1;act2;", 0, NONE);
        faultIn("fee\n1\n;", 0, NONE);
        faultIn("proof 1when 1<2and 2<3or not 1=1;", 0, NONE);
        faultIn("Fee 1;", 1, 0);
        faultIn("feE 1;", 1, 0);
        faultIn("feee 1;", 1, 0);
        faultIn("fe 1;", 1, 0);
        faultIn("feez 1;", 1, 0);
        faultIn("feea 1;", 1, 0);
        faultIn("feeA 1;", 1, 0);
        faultIn("feeZ 1;", 1, 0);
        faultIn("fee` 1;", 1, 3);
        faultIn("fee{ 1;", 1, 3);
        faultIn("fee@ 1;", 1, 3);
        faultIn("fee[ 1;", 1, 3);
        faultIn("fee 1:", 1, 5);
        faultIn("fee\t1;", 1, 3);
        faultIn("fee 1,", 1, 5);
        faultIn("fee 1" + (char) 233, 1, 5);
        faultIn("fee 1" + (char) 0, 1, 5);
        faultIn("proof 1 when 1<2 andor 1<2;", 1, 17);
        faultIn("fee 1 2;", 1, 6);
    }

    private static void faultIn(String text, int fault, int place) {
        SleepOffice x = new SleepOffice();
        int lines = Checks.read(x, 0, text);
        c.due("reads of '" + text + "' is NONE", lines == NONE, fault != 0);
        c.due("fault(0) of '" + text + "'", x.fault(0), fault);
        c.due("fault(1) of '" + text + "'", x.fault(1), place);
    }

    private static void sleep() {
        SleepOffice x = Checks.officeOn(1000);
        x.firm(2);
        x.person(0, NONE, NONE, NONE, NONE);
        x.account(0, 1, 0, 100);
        Checks.read(x, 2, "sleep 1 2;act 3;letter 50;");
        c.due("without an act", x.sleep(0, 1000, 0), 820);
        c.due("its letter", x.sleep(0, 1000, 1), 770);
        c.due("it sleeps", x.sleep(0, 1000, 2), 1);
        c.due("on that day too", x.sleep(0, 820, 2), 1);
        c.due("not a day ahead", x.sleep(0, 819, 2), 0);
        x.act(0, 2, 500, 1);
        c.due("a sort that does not count", x.sleep(0, 1000, 0), 820);
        x.grow(0, 500, 1, 1);
        c.due("growth is no act", x.sleep(0, 1000, 0), 820);
        x.act(0, 3, 300, 1);
        c.due("one that counts", x.sleep(0, 1000, 0), 1020);
        x.act(0, 3, 200, 1);
        c.due("the last one by its day", x.sleep(0, 1000, 0), 1020);
        Checks.read(x, 2, "");
        c.due("by the law as it is NOW", x.sleep(0, 1000, 0), 500 + 1800);
        Checks.read(x, 2, "sleep 1 0;letter 999;");
        c.due("a letter below 0", x.sleep(0, 1000, 1), 500 - 999);
        c.due("known -1", x.sleep(0, -1, 0), NEVER);
        c.due("known behind NOW", x.sleep(0, 1001, 0), NEVER);
        c.due("account 1", x.sleep(1, 0, 0), NEVER);
        c.due("account -1", x.sleep(-1, 0, 0), NEVER);
        c.due("what 4", x.sleep(0, 0, 4), NEVER);
        c.due("what -1", x.sleep(0, 0, -1), NEVER);
        x.moves(0, 1);
        c.due("by the law of the home", x.sleep(0, 1000, 0), 500 + 1800);
        c.due("owed to it", x.sleep(0, 1000, 3), 1);
    }

    private static void sleepAsKnown() {
        SleepOffice x = Checks.officeOn(1000);
        x.firm(0);
        x.person(0, NONE, NONE, NONE, NONE);
        x.account(0, 0, 0, 100);
        x.days(5);
        x.act(0, 0, 700, 1);
        c.due("ahead of the telling", x.sleep(0, 1004, 0), 1900);
        c.due("as it was told", x.sleep(0, 1005, 0), 2500);
    }

    private static void sleepOfMerged() {
        SleepOffice x = Checks.officeOn(1000);
        x.firm(0);
        x.firm(1);
        x.person(0, NONE, NONE, NONE, NONE);
        x.account(0, 0, 0, 0);
        Checks.read(x, 1, "sleep 0 1;letter 7;");
        x.merge(0, 1, 400);
        c.due("owed ahead of it", x.sleep(0, 399, 3), 0);
        c.due("owed from then on", x.sleep(0, 400, 3), 1);
        c.due("sleep ahead of it", x.sleep(0, 399, 0), 1800);
        c.due("sleep from then on", x.sleep(0, 400, 0), 360);
        c.due("letter from then on", x.sleep(0, 400, 1), 353);
        c.due("it sleeps then", x.sleep(0, 400, 2), 1);
        c.due("not ahead of it", x.sleep(0, 399, 2), 0);
    }
}
