/** The document's boundary cases that hold, promise by promise; those that are refused stand in RefusedTest. */
public final class EdgesTest {
    private static final int NONE = SleepOffice.NONE;
    private static final int GREATEST = 2147483647;
    private static final Checks c = new Checks("EdgesTest");

    public static void main(String[] args) {
        dayZero();
        firstAndLastDays();
        mergesOnTheEdges();
        personsOnTheEdges();
        accountsOnTheEdges();
        growthOnTheEdges();
        knownOnTheEdges();
        fullTape();
        faultsComeAndGo();
        numbersOnTheEdges();
        linesOnTheEdges();
        sleepOnTheEdges();
        lateAndInterest();
        pointsOnTheEdges();
        eightPersons();
        sharesOnTheEdges();
        proofWraps();
        proofNames();
        proofDeep();
        paidUpToAll();
        waitsByOne();
        feesOnTheEdges();
        yearsOnTheEdges();
        looksOnTheEdges();
        c.finish();
    }

    private static SleepOffice officeOn(int day) {
        SleepOffice x = Checks.officeOn(day);
        x.firm(0);
        x.firm(1);
        x.person(0, NONE, NONE, NONE, NONE);
        return x;
    }

    // ---- promises 1 to 5

    private static void dayZero() {
        SleepOffice x = new SleepOffice();
        c.due("a firm on DAY 0", x.firm(0), 0);
        c.due("another one", x.firm(3), 1);
        c.due("one BORN on DAY 0", x.person(0, 0, NONE, NONE, NONE), 0);
        c.due("an account of DAY 0", x.account(0, 0, 0, 0), 0);
        c.due("an act on DAY 0", x.act(0, 0, 0, 5), true);
        c.due("a growth on DAY 0", x.grow(0, 0, 9, 1), true);
        c.due("sum on DAY 0", x.sum(0, 0, 0), 5);
        c.due("sleep as known on DAY 0", x.sleep(0, 0, 0), 1800);
        c.due("merge on DAY 0", x.merge(0, 1, 0), true);
        c.due("whose on DAY 0", x.firmOn(0, 0), 1);
        c.due("owed on DAY 0", x.sleep(0, 0, 3), 3);
        c.due("report on DAY 0", x.report(1), 0);
        c.due("dies on DAY 0", x.dies(0, 0), true);
    }

    private static void firstAndLastDays() {
        SleepOffice x = new SleepOffice();
        c.due("one day", x.days(1), 1);
        c.due("the most days", x.days(9999), 10000);
        c.due("to the last DAY", x.days(9999), 19999);
        x.firm(0);
        x.firm(1);
        x.person(0, 19999, NONE, NONE, NONE);
        c.due("an account of the last DAY", x.account(0, 0, 0, 19999), 0);
        c.due("an act on it", x.act(0, 0, 19999, 5), true);
        c.due("sum on it", x.sum(0, 19999, 19999), 5);
        c.due("sleep behind it", x.sleep(0, 19999, 0), 21799);
        c.due("merge on it", x.merge(0, 1, 19999), true);
        c.due("whose on it", x.firmOn(0, 19999), 1);
        c.due("whose a day ahead", x.firmOn(0, 19998), 0);
        c.due("dies on it", x.dies(0, 19999), true);
    }

    private static void mergesOnTheEdges() {
        SleepOffice x = Checks.officeOn(10);
        for (int f = 0; f < 8; f++) {
            x.firm(f % 4);
        }
        c.due("6 into 7 on 5", x.merge(6, 7, 5), true);
        c.due("7 into 5 a day behind that", x.merge(7, 5, 6), true);
        c.due("4 into 6 a day ahead of its merge", x.merge(4, 6, 4), true);
        c.due("3 into 7 on that day too", x.merge(3, 7, 5), true);
        c.due("0 into 5 NOW", x.merge(0, 5, 10), true);
        int[] on4 = {0, 1, 2, 3, 6, 5, 6, 7};
        int[] on5 = {0, 1, 2, 7, 7, 5, 7, 7};
        int[] on6 = {0, 1, 2, 5, 5, 5, 5, 5};
        for (int f = 0; f < 8; f++) {
            c.due("firmOn(" + f + ", 4)", x.firmOn(f, 4), on4[f]);
            c.due("firmOn(" + f + ", 5)", x.firmOn(f, 5), on5[f]);
            c.due("firmOn(" + f + ", 6)", x.firmOn(f, 6), on6[f]);
        }
        c.due("a DAY that is still to come", x.firmOn(0, 19999), 5);
    }

    // ---- promises 6 to 8

    private static void personsOnTheEdges() {
        SleepOffice x = Checks.officeOn(7);
        c.due("all that is least", x.person(0, 0, 0, 0, NONE), 0);
        c.due("all that is greatest", x.person(99, 7, 3, 9999, 0), 1);
        c.due("nothing known", x.person(50, NONE, NONE, NONE, NONE), 2);
        c.due("a child BORN ahead of its parent", x.person(1, 0, NONE, NONE, 1), 3);
        c.due("dies as it is BORN", x.dies(1, 7), true);
        c.due("a child of one that died", x.person(1, NONE, NONE, NONE, 1), 4);
        c.due("dies on DAY 0", x.dies(2, 0), true);
        c.due("one that died moves", x.moves(1, 0), true);
        c.due("home 3", x.moves(0, 3), true);
        c.due("home 0", x.moves(0, 0), true);
        c.due("home not known", x.moves(0, NONE), true);
    }

    // ---- promises 9 to 12

    private static void accountsOnTheEdges() {
        SleepOffice x = officeOn(100);
        x.dies(0, 50);
        c.due("of one that died", x.account(0, 0, 0, 0), 0);
        c.due("of kind 3, NOW", x.account(0, 3, 0, 100), 1);
        x.merge(0, 1, 60);
        c.due("a day ahead of the merge", x.account(0, 0, 0, 59), 2);
        c.due("an act as it began", x.act(2, 5, 59, 9999999), true);
        c.due("an act NOW", x.act(2, 0, 100, -9999999), true);
        c.due("sum ahead of that", x.sum(2, 99, 100), 9999999);
        c.due("sum with it", x.sum(2, 100, 100), 0);
        c.due("one act below 0 alone", x.act(0, 0, 0, -9999999), true);
        c.due("its sum", x.sum(0, 100, 100), 0);
    }

    private static void growthOnTheEdges() {
        SleepOffice x = officeOn(100);
        x.account(0, 0, 0, 10);
        c.due("on its beginning", x.grow(0, 10, 9, 1), true);
        c.due("NOW", x.grow(0, 100, 1, 9), true);
        c.due("9 by 9", x.grow(0, 50, 9, 9), true);
        c.due("1 by 1", x.grow(0, 51, 1, 1), true);
        c.due("the 5th, on another day", x.grow(0, 52, 1, 1), false);
        x.act(0, 0, 99, 80);
        c.due("80 by 9 downwards", x.sum(0, 100, 100), 8);
        x.act(0, 0, 100, 1);
        c.due("an act on that day is not grown", x.sum(0, 100, 100), 9);
        x.account(0, 0, 0, 0);
        x.act(1, 0, 1, -1);
        x.grow(1, 2, 1, 9);
        x.act(1, 0, 3, 10);
        c.due("-1 by 9 downwards is -1", x.sum(1, 3, 100), 9);
        x.grow(1, 4, 2, 9);
        c.due("9 times 2 by 9 is even", x.sum(1, 4, 100), 2);
    }

    private static void knownOnTheEdges() {
        SleepOffice x = officeOn(100);
        x.account(0, 0, 0, 0);
        x.act(0, 0, 10, 4);
        x.days(1);
        x.act(0, 0, 5, 3);
        x.grow(0, 10, 5, 1);
        c.due("known a day ahead of all", x.sum(0, 101, 99), 0);
        c.due("known the first one", x.sum(0, 101, 100), 4);
        c.due("known all", x.sum(0, 101, 101), 19);
        c.due("known all, on 9", x.sum(0, 9, 101), 3);
        c.due("known on DAY 0", x.sum(0, 0, 0), 0);
    }

    // ---- promises 13 to 17

    private static void fullTape() {
        SleepOffice x = new SleepOffice();
        String text = "proof 1" + "+1".repeat(293) + ";fee 9;";
        c.due("a text of 600", text.length(), 600);
        c.due("is read", Checks.read(x, 1, text), 2);
        c.due("to its end", x.told(1, 6), 9);
        c.due("a fault on the last place", Checks.read(x, 1, text.substring(0, 599) + "+"), NONE);
        c.due("its place", x.fault(1), 599);
        c.due("a fault at the end of 600", Checks.read(x, 1, text.substring(0, 594) + "      "), 1);
        c.due("a line that does not end", Checks.read(x, 1, text.substring(0, 593) + "       "), NONE);
        c.due("its place is the length", x.fault(1), 600);
        String longest = "proof (((((((sum" + "*(years-sum*heirs/99999)".repeat(20) + ")))))));";
        c.due("a long line", Checks.read(x, 2, longest), 1);
        c.due("end(0) of nothing", x.end(0), true);
        c.due("bytes that are below 0", x.feed(-1, -1, -1, -1, -1), 20);
        c.due("are no token", x.reads(0), NONE);
        c.due("at their place", x.fault(1), 0);
    }

    private static void faultsComeAndGo() {
        SleepOffice x = new SleepOffice();
        Checks.read(x, 0, "fee 101;");
        c.due("a fault", x.fault(0), 2);
        c.due("its place", x.fault(1), 4);
        Checks.read(x, 3, "fee 100;");
        c.due("none any more", x.fault(0), 0);
        c.due("and no place", x.fault(1), NONE);
        Checks.read(x, 3, "fee");
        c.due("a reads() of nothing", x.reads(2), 0);
        c.due("has no fault", x.fault(0), 0);
        c.due("and no place", x.fault(1), NONE);
    }

    private static void numbersOnTheEdges() {
        number("sleep ", " 1;", 3, 2);
        number("sleep 3 ", ";", 40, 2);
        number("act ", ";", 5, 2);
        number("letter ", ";", 999, 2);
        number("fee ", ";", 100, 2);
        number("interest ", " 1;", 200, 2);
        number("interest 1 ", ";", 40, 2);
        number("proof ", ";", 99999, 1);
        number("proof 1/", ";", 99999, 1);
        number("proof 1 when 1<", ";", 99999, 1);
        number("proof (", ");", 99999, 1);
        fault("proof 1/1;", 0, NONE);
        fault("proof 1/0;", 2, 8);
        fault("proof 1/0*2;", 2, 8);
        fault("proof 1 when 1<1/0;", 2, 17);
        fault("proof (1/0);", 2, 9);
        fault("proof 0/1*0+0-0;", 0, NONE);
    }

    /** The least and the greatest number are taken, the next one is a fault at its place, and so is none. */
    private static void number(String ahead, String behind, int greatest, int why) {
        fault(ahead + (ahead.endsWith("/") ? "1" : "0") + behind, 0, NONE);
        fault(ahead + greatest + behind, 0, NONE);
        fault(ahead + (greatest + 1) + behind, why, ahead.length());
        boolean anotherTakesIt = behind.startsWith(" ");
        fault(ahead + behind, 1, anotherTakesIt ? (ahead + behind).length() - 1 : ahead.length());
        fault(ahead + "-1" + behind, 1, ahead.length());
        fault(ahead + "000001" + behind, 1, ahead.length());
    }

    private static void fault(String text, int fault, int place) {
        SleepOffice x = new SleepOffice();
        int lines = Checks.read(x, 0, text);
        c.due("reads of '" + text + "' is NONE", lines == NONE, fault != 0);
        c.due("fault(0) of '" + text + "'", x.fault(0), fault);
        c.due("fault(1) of '" + text + "'", x.fault(1), place);
    }

    private static void linesOnTheEdges() {
        String[] line = {"sleep 0 1;", "act 0;", "letter 1;", "fee 1;", "interest 1 1;", "proof 1 when 1<2;"};
        for (String one : line) {
            SleepOffice x = new SleepOffice();
            c.due("24 of " + one, Checks.read(x, 0, one.repeat(24)), 24);
            c.due("25 of " + one, Checks.read(x, 0, one.repeat(25)), NONE);
            c.due("fault", x.fault(0), 3);
            c.due("at its first keyword", x.fault(1), 24 * one.length());
        }
        fault("fee 1;".repeat(24) + ";", 1, 144);
        fault("fee 1;".repeat(24) + "\n\nproof", 3, 146);
        fault("fee 1;".repeat(23) + "fee 101;fee 1;", 2, 142);
        for (String open : new String[] {"not ", "not not not ", "not not not not not not not "}) {
            int nots = open.length() / 4;
            String head = "proof 1 when " + open;
            String brackets = "(".repeat(8 - nots);
            fault(head + brackets + "1" + ")".repeat(8 - nots) + "<2;", 0, NONE);
            fault(head + "1<" + brackets + "1" + ")".repeat(8 - nots) + ";", 0, NONE);
            fault(head + "(" + brackets + "1" + ")".repeat(9 - nots) + "<2;", 3, head.length() + 8 - nots);
            fault(head + "1<(" + brackets + "1" + ")".repeat(9 - nots) + ";", 3, head.length() + 10 - nots);
        }
        fault("proof ((((((((1)+(2)))))))) when ((((((((1))))))))=1;", 0, NONE);
        fault("proof ((((((((1)+((2)))))))));", 3, 18);
    }

    // ---- promises 18 to 20

    private static void sleepOnTheEdges() {
        SleepOffice x = officeOn(5000);
        x.account(0, 0, 0, 4000);
        x.account(0, 3, 0, 4000);
        x.act(0, 0, 4500, 1);
        Checks.read(x, 0, "sleep 0 0;sleep 3 40;letter 0;");
        c.due("0 years", x.sleep(0, 5000, 0), 4500);
        c.due("0 days ahead", x.sleep(0, 5000, 1), 4500);
        c.due("it sleeps from its last act on", x.sleep(0, 5000, 2), 1);
        c.due("40 years", x.sleep(1, 5000, 0), 4000 + 14400);
        c.due("as known ahead of its beginning", x.sleep(0, 0, 0), 4000);
        c.due("and it does not sleep then", x.sleep(0, 3999, 2), 0);
        c.due("it sleeps from its beginning on, as known then", x.sleep(0, 4000, 2), 1);
        Checks.read(x, 0, "sleep 0 0;letter 999;");
        c.due("999 days ahead", x.sleep(0, 5000, 1), 3501);
        x.account(0, 0, 0, 0);
        c.due("a letter below 0", x.sleep(2, 5000, 1), -999);
        Checks.read(x, 0, "act 5;");
        c.due("no act that counts", x.sleep(0, 5000, 0), 4000 + 1800);
        x.act(0, 5, 4000, 0);
        c.due("one that counts, of 0, as it began", x.sleep(0, 5000, 0), 4000 + 1800);
        x.act(0, 5, 5000, 0);
        c.due("one that counts, NOW", x.sleep(0, 5000, 0), 5000 + 1800);
        c.due("as known a day ahead", x.sleep(0, 4999, 0), 4000 + 1800);
    }

    private static void lateAndInterest() {
        SleepOffice x = officeOn(2159);
        x.account(0, 0, 0, 360);
        x.act(0, 0, 360, 1000);
        c.due("a day ahead of its sleep", x.report(0), 0);
        x.days(1);
        c.due("on that day", x.report(0), 1);
        c.due("LATE by 0", x.held(0, 3), 0);
        x.act(0, 0, 2160, 7);
        c.due("an act of that day changes nothing", x.held(0, 1), 1000);
        c.due("nor how LATE", x.held(0, 3), 0);
        Checks.read(x, 0, "interest 200 1;");
        x.days(359);
        c.due("359 days", x.held(0, 4), 1000 * 200 * 359 / 360000);
        x.days(1);
        c.due("a year", x.held(0, 4), 200);
        x.days(1);
        c.due("a year at most", x.held(0, 4), 200);
        Checks.read(x, 0, "interest 0 40;");
        c.due("nothing a year", x.held(0, 4), 0);
        Checks.read(x, 0, "interest 1 40;");
        c.due("361 days", x.held(0, 4), 1);
    }

    // ---- promises 21 to 25

    private static void pointsOnTheEdges() {
        SleepOffice x = Checks.officeOn(10);
        x.person(0, 0, 0, 0, NONE);
        x.person(0, 0, 0, 0, NONE);
        x.person(99, 10, 3, 9999, NONE);
        x.person(99, NONE, 3, 9999, NONE);
        x.person(99, 10, 3, NONE, NONE);
        c.due("all alike, all 0", x.points(0, 1), 14);
        c.due("both unlike", x.points(0, 2), NONE);
        c.due("BORN not known", x.points(2, 3), 10);
        c.due("MARK not known", x.points(2, 4), 8);
        c.due("both of that", x.points(3, 4), 4);
        x.dies(3, 10);
        c.due("died as the other one was BORN", x.points(3, 4), 4);
        SleepOffice y = Checks.officeOn(10);
        y.person(1, 10, NONE, NONE, NONE);
        y.person(1, NONE, NONE, NONE, NONE);
        y.dies(1, 9);
        c.due("died a day ahead", y.points(0, 1), NONE);
        c.due("asked the other way", y.points(1, 0), NONE);
        c.due("such two are apart", y.join(3, 0), 0);
        c.due("in one way", y.join(3, 1), 1);
        c.due("joined 0", y.joined(3, 0, 1), 0);
    }

    private static void eightPersons() {
        SleepOffice alike = Checks.officeOn(10);
        SleepOffice barred = Checks.officeOn(10);
        SleepOffice strange = Checks.officeOn(10);
        for (int p = 0; p < 24; p++) {
            alike.person(1, 1, 1, 1, NONE);
            barred.person(1, 1, 1, p, NONE);
            strange.person(p, NONE, NONE, NONE, NONE);
        }
        int last = 255 << 16;
        c.due("eight alike", alike.join(last, 0), 28 * 9);
        c.due("in one way", alike.join(last, 1), 1);
        c.due("the 24th is sure", alike.joined(last, 16, 23), 2);
        c.due("nine", alike.join(last | 1, 0), NONE - 9999);
        c.due("joined of nine", alike.joined(last | 1, 16, 23), NONE);
        c.due("eight barred", barred.join(last, 0), 0);
        c.due("in one way", barred.join(last, 1), 1);
        c.due("neither", barred.joined(last, 16, 23), 0);
        c.due("eight strangers", strange.join(last, 0), 0);
        c.due("in one way", strange.join(last, 1), 1);
        c.due("one alone", strange.join(1 << 23, 0), 0);
        c.due("in one way", strange.join(1 << 23, 1), 1);
    }

    private static void sharesOnTheEdges() {
        SleepOffice x = Checks.officeOn(10);
        x.person(0, NONE, NONE, NONE, NONE);
        x.dies(0, 10);
        c.due("nobody inherits", x.heirs(0), 0);
        c.due("nothing of itself, above", x.share(0, 0, 0), 0);
        c.due("nothing of itself, below", x.share(0, 0, 1), 1);
        for (int p = 1; p < 24; p++) {
            x.person(0, NONE, NONE, NONE, 0);
        }
        c.due("23 children", x.heirs(0), 23);
        c.due("a 23rd", x.share(0, 23, 1), 23);
        for (int p = 1; p < 23; p++) {
            x.dies(p, 10);
        }
        c.due("one child", x.heirs(0), 1);
        c.due("all, above", x.share(0, 23, 0), 1);
        c.due("all, below", x.share(0, 23, 1), 1);
        c.due("one that died has none, above", x.share(0, 22, 0), 0);
        c.due("one that died has none, below", x.share(0, 22, 1), 1);
        c.due("no share upwards", x.share(1, 0, 0), 0);
    }

    // ---- promises 26 to 29

    /** Account 0 of DAY 0 with that sum, held on DAY 2000 by STATE 0; 1 and 2 are the owner's children. */
    private static SleepOffice held(int sum) {
        SleepOffice x = officeOn(2000);
        x.person(1, NONE, NONE, NONE, 0);
        x.person(2, NONE, NONE, NONE, 0);
        x.account(0, 3, 0, 0);
        x.act(0, 0, 0, sum);
        x.report(0);
        return x;
    }

    private static void asks(SleepOffice x, String law, int points) {
        c.due("'" + law + "' is read", Checks.read(x, 0, law) >= 0, true);
        c.due("points by '" + law + "'", x.claimOf(0, 2), points);
    }

    private static void proofWraps() {
        SleepOffice x = officeOn(2000);
        x.account(0, 3, 0, 0);
        for (int i = 0; i < 24; i++) {
            x.act(0, 0, 0, 9999999);
        }
        x.grow(0, 1, 9, 1);
        x.report(0);
        x.claim(0, 0, 99, 0);
        c.due("held beyond an int", x.held(0, 1), 24L * 9999999 * 9);
        asks(x, "proof sum;", GREATEST);
        asks(x, "proof 3 when sum+1<0;", 3);
        asks(x, "proof 3 when sum*2<0;", 3);
        asks(x, "proof 0-sum;", 0);
        asks(x, "proof (0-sum)*2;", 2);
        asks(x, "proof 0-sum-2;", GREATEST);
        asks(x, "proof 20000+60000*60000/60000;", 20000 - 11582);
        asks(x, "proof 4 when 60000*60000<0;", 4);
        asks(x, "proof 4 when 32768*32768*2=0-32768*32768*2;", 4);
        asks(x, "proof 4 when 32768*32768*2-1>0;", 4);
        asks(x, "proof 4 when 32768*32768*2/99999=0-21475;", 4);
        asks(x, "proof 5+(0-7)/2;", 2);
        asks(x, "proof 5+(0-1)/2;", 5);
        SleepOffice all = held(9999999);
        all.claim(0, 0, 0, 0);
        asks(all, "proof sum;", 9999999);
    }

    private static void proofNames() {
        SleepOffice x = held(1000);
        x.claim(0, 0, 7, 0);
        asks(x, "proof 5+heirs;", 5);
        asks(x, "proof 5+kind;", 8);
        asks(x, "proof 5+years;", 5);
        x.days(359);
        asks(x, "proof 5+years;", 5);
        x.days(1);
        asks(x, "proof 5+years;", 6);
        asks(x, "proof sum-999;", 1);
        asks(x, "proof sum-1000;", 0);
        asks(x, "proof sum-1001;", 0);
        asks(x, "proof 7;", 7);
        c.due("as many as asked are good", x.claimOf(0, 3), 1);
        asks(x, "proof 8;", 8);
        c.due("one less is not", x.claimOf(0, 3), 0);
        asks(x, "proof 7 when 1=1 or 1=2 and 1=2;proof 99 when 1=2;", 7);
        c.due("lines that are not so ask nothing", x.claimOf(0, 3), 1);
        x.dies(0, 2360);
        asks(x, "proof 5+heirs;", 7);
        x.dies(1, 2360);
        x.dies(2, 2360);
        asks(x, "proof 5+heirs;", 5);
    }

    /** Eight brackets, each with two numbers that wait for it, behind all else in a line that can wait. */
    private static void proofDeep() {
        SleepOffice x = held(1000);
        x.claim(0, 0, 7, 0);
        String deep = "2+3*(".repeat(8) + "2+3*4" + ")".repeat(8);
        asks(x, "proof " + deep + ";", 98414);
        asks(x, "proof 6 when 1=2 or 1=1 and 98414=" + deep + ";", 6);
        asks(x, "proof 6 when 1=2 or 1=1 and 98415=" + deep + ";", 0);
        asks(x, "proof " + deep + " when " + deep + "=" + deep + " and not not not not not not not not 1=1;", 98414);
    }

    private static void paidUpToAll() {
        SleepOffice x = held(100);
        x.dies(0, 2000);
        x.claim(1, 0, 0, 0);
        x.claim(2, 0, 0, 0);
        c.due("a half", x.pay(0), 50);
        c.due("and the other half: all, not above", x.pay(1), 50);
        c.due("all is paid", x.held(0, 5), 100);
        SleepOffice y = held(0);
        y.claim(0, 0, 0, 100);
        c.due("nothing of nothing", y.pay(0), 0);
        c.due("is paid", y.claimOf(0, 6), 1);
        SleepOffice z = held(1);
        z.dies(0, 2000);
        z.claim(1, 0, 0, 0);
        c.due("a half of 1, downwards", z.pay(0), 0);
    }

    /** The first half is paid with interest, then the law gives none any more. */
    private static void waitsByOne() {
        secondHalf(1001, 3, 502, NONE);
        secondHalf(1000, 2, 501, NONE);
        secondHalf(1001, 1, 501, 500);
    }

    private static void secondHalf(int sum, int interest, int first, long second) {
        SleepOffice x = held(sum);
        x.dies(0, 2000);
        x.days(360);
        Checks.read(x, 0, "interest " + interest + " 1;");
        x.claim(1, 0, 0, 0);
        x.claim(2, 0, 0, 0);
        c.due("interest of " + sum, x.held(0, 4), interest);
        c.due("the first half of " + sum, x.pay(0), first);
        Checks.read(x, 0, "");
        c.due("the second half of " + sum, x.pay(1), second);
        c.due("its standing", x.claimOf(1, 6), second == NONE ? 0 : 1);
        Checks.read(x, 0, "interest " + interest + " 1;");
        c.due("with interest again", x.pay(1), second == NONE ? first : NONE);
    }

    private static void feesOnTheEdges() {
        int[][] rows = {{0, 100, 0}, {100, 0, 0}, {100, 100, 999}, {1, 100, 9}, {100, 1, 9}, {99, 100, 989},
            {50, 49, 489}, {49, 50, 489}, {50, 50, 499}};
        for (int[] row : rows) {
            SleepOffice x = held(999);
            StringBuilder law = new StringBuilder("fee ").append(row[0]).append(';');
            Checks.read(x, 0, law.toString());
            x.claim(0, 0, 0, row[1]);
            c.due("all it is paid", x.pay(0), 999);
            c.due("all counts with both", x.claimOf(0, 4), 999);
            c.due("fee " + row[1] + " by " + law, x.claimOf(0, 5), row[2]);
            c.due("all that is paid", x.look(7), 999);
        }
    }

    // ---- promises 30 to 33

    private static void yearsOnTheEdges() {
        SleepOffice x = new SleepOffice();
        x.firm(0);
        for (int y = 0; y < 20; y++) {
            c.due("the greatest figure, " + y, x.figure(0, y, 999999), true);
        }
        c.due("the least sum", x.audit(0, 0), 19999980);
        c.due("the greatest sum", x.audit(0, 1), 19999980);
        c.due("a gap on the first one", x.figure(0, 0, NONE), true);
        c.due("a gap on the last one", x.figure(0, 19, NONE), true);
        c.due("a gap between", x.figure(0, 10, NONE), true);
        int[] least = {0, 999999, 0};
        int[] year = {0, 10, 19};
        for (int i = 0; i < 3; i++) {
            c.due("least of " + year[i], x.audit(0, 10 + year[i]), least[i]);
            c.due("greatest of " + year[i], x.audit(0, 40 + year[i]), 999999);
        }
        x.figure(0, 9, 0);
        c.due("from 0", x.audit(0, 20), 0);
        c.due("up to the other one", x.audit(0, 50), 999999);
        SleepOffice one = new SleepOffice();
        one.firm(0);
        one.figure(0, 0, 0);
        c.due("one figure of 0, least", one.audit(0, 0), 0);
        c.due("one figure of 0, greatest", one.audit(0, 1), 0);
        c.due("nothing to look at", one.looks(0, 20, 999, 0), 0);
    }

    private static void looksOnTheEdges() {
        SleepOffice x = new SleepOffice();
        x.firm(0);
        x.figure(0, 0, 999999);
        look(x, 20, 999, 0xffffe, 19 * 999999, 19);
        look(x, 19, 19, 0xffffe, 19 * 999999, 19);
        look(x, 18, 999, 0x7fffe, 18 * 999999, 18);
        look(x, 20, 18, 0x7fffe, 18 * 999999, 18);
        look(x, 0, 999, 0, 0, 0);
        look(x, 20, 0, 0, 0, 0);
        for (int y = 0; y < 20; y++) {
            x.costs(y, 99);
        }
        look(x, 20, 999, 0x7fe, 10 * 999999, 990);
        look(x, 20, 99, 2, 999999, 99);
        look(x, 20, 98, 0, 0, 0);
        x.costs(19, 98);
        look(x, 1, 999, 1 << 19, 999999, 98);
        look(x, 20, 999, 0x801fe | 1 << 9, 10 * 999999, 989);
        look(x, 20, 98, 1 << 19, 999999, 98);
        x.costs(19, 1);
        look(x, 11, 991, 0x807fe, 11 * 999999, 991);
        look(x, 11, 990, 0x803fe, 10 * 999999, 892);
    }

    private static void look(SleepOffice x, int k, int purse, int set, int gain, int cost) {
        c.due("set of " + k + " within " + purse, x.looks(0, k, purse, 0), set);
        c.due("what it narrows, " + k + " within " + purse, x.looks(0, k, purse, 1), gain);
        c.due("cost of " + k + " within " + purse, x.looks(0, k, purse, 2), cost);
    }
}
