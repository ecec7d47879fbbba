/** Promises 21 to 23: points, join, joined. */
public final class JoiningTest {
    private static final int NONE = SleepOffice.NONE;
    private static final int NEVER = SleepOffice.NONE - 9999;
    private static final Checks c = new Checks("JoiningTest");

    public static void main(String[] args) {
        points();
        barredByDeath();
        join();
        manyBest();
        wrongSets();
        bars();
        smallBehindGreat();
        c.finish();
    }

    private static void points() {
        SleepOffice x = Checks.officeOn(100);
        x.person(1, 10, 0, 5, NONE);
        x.person(1, 10, 0, 5, NONE);
        x.person(2, NONE, NONE, NONE, NONE);
        x.person(3, NONE, NONE, NONE, NONE);
        x.person(2, 10, 1, NONE, NONE);
        x.person(1, 11, 0, 5, NONE);
        x.person(1, 10, 0, 6, NONE);
        c.due("all alike", x.points(0, 1), 14);
        c.due("nothing known is nothing alike", x.points(2, 3), 0);
        c.due("name alone", x.points(2, 4), 3);
        c.due("born alone", x.points(0, 4), 4);
        c.due("the other way round", x.points(4, 0), 4);
        c.due("born unlike", x.points(0, 5), NONE);
        c.due("mark unlike", x.points(6, 0), NONE);
        c.due("the same", x.points(0, 0), NONE - 1);
        c.due("points(0, 7)", x.points(0, 7), NONE - 1);
        c.due("points(7, 0)", x.points(7, 0), NONE - 1);
        c.due("points(-1, 0)", x.points(-1, 0), NONE - 1);
        c.due("points(0, -1)", x.points(0, -1), NONE - 1);
        x.moves(1, 1);
        c.due("home unlike", x.points(0, 1), 13);
        x.moves(1, NONE);
        c.due("home not known", x.points(0, 1), 13);
        x.moves(3, 1);
        c.due("home alone", x.points(3, 4), 1);
    }

    private static void barredByDeath() {
        SleepOffice x = Checks.officeOn(100);
        x.person(1, 50, NONE, NONE, NONE);
        x.person(1, NONE, NONE, NONE, NONE);
        x.person(1, NONE, NONE, NONE, NONE);
        x.person(1, NONE, NONE, NONE, NONE);
        x.dies(1, 50);
        x.dies(2, 49);
        c.due("died as the other one was born", x.points(0, 1), 3);
        c.due("died ahead of that", x.points(0, 2), NONE);
        c.due("the other way round", x.points(2, 0), NONE);
        c.due("born of the other one not known", x.points(2, 3), 3);
        c.due("both died, none born", x.points(1, 2), 3);
    }

    private static void join() {
        SleepOffice x = Checks.officeOn(100);
        x.person(1, 10, NONE, NONE, NONE);
        x.person(1, 10, NONE, NONE, NONE);
        x.person(1, NONE, NONE, 7, NONE);
        x.person(9, NONE, NONE, 7, NONE);
        c.due("one alone", x.join(1, 0), 0);
        c.due("one alone, ways", x.join(1, 1), 1);
        c.due("two", x.join(3, 0), 2);
        c.due("two and two", x.join(15, 0), 3);
        c.due("two and two, ways", x.join(15, 1), 1);
        c.due("sure", x.joined(15, 0, 1), 2);
        c.due("sure too", x.joined(15, 3, 2), 2);
        c.due("neither", x.joined(15, 1, 2), 0);
        c.due("likely is not asked of others", x.joined(3, 0, 2), NONE);
        // Worth -2 and -2 less than the 2 of the pair.
        c.due("three", x.join(7, 0), 2);
    }

    /** Pairs of worth 0 alone: every joining of eight is BEST. */
    private static void manyBest() {
        SleepOffice x = Checks.officeOn(100);
        for (int p = 0; p < 8; p++) {
            x.person(p, 10, 0, NONE, NONE);
        }
        int[] bell = {1, 1, 2, 5, 15, 52, 203, 877, 4140};
        for (int n = 1; n <= 8; n++) {
            c.due("worth of " + n, x.join((1 << n) - 1, 0), 0);
            c.due("ways of " + n, x.join((1 << n) - 1, 1), bell[n]);
        }
        c.due("likely", x.joined(255, 0, 7), 1);
        x.moves(7, 1);
        c.due("ways with one apart", x.join(255, 1), 877);
        c.due("neither with it", x.joined(255, 0, 7), 0);
    }

    private static void wrongSets() {
        SleepOffice x = Checks.officeOn(100);
        for (int p = 0; p < 24; p++) {
            x.person(p, 10, 0, NONE, NONE);
        }
        c.due("nobody", x.join(0, 0), NEVER);
        c.due("nine", x.join(511, 0), NEVER);
        c.due("all", x.join((1 << 24) - 1, 1), NEVER);
        c.due("the last eight", x.join(255 << 16, 1), 4140);
        c.due("beyond the last one", x.join(1 << 24, 0), NEVER);
        c.due("one and one beyond", x.join(1 << 24 | 1, 0), NEVER);
        c.due("below 0", x.join(-1, 0), NEVER);
        c.due("the least number", x.join(-2147483648, 0), NEVER);
        c.due("what 2", x.join(1, 2), NEVER);
        c.due("what -1", x.join(1, -1), NEVER);
        c.due("joined of nobody", x.joined(0, 0, 1), NONE);
        c.due("joined of nine", x.joined(511, 0, 1), NONE);
        c.due("joined of the same", x.joined(3, 0, 0), NONE);
        c.due("joined, p not of the set", x.joined(3, 2, 0), NONE);
        c.due("joined, q not of the set", x.joined(3, 0, 2), NONE);
        c.due("joined, p not of the set, with the second", x.joined(3, 2, 1), NONE);
        c.due("joined, q not of the set, with the second", x.joined(3, 1, 2), NONE);
        c.due("joined, both not of the set", x.joined(3, 2, 4), NONE);
        c.due("joined, p below 0", x.joined(3, -1, 0), NONE);
        c.due("joined, q 24", x.joined(3, 0, 24), NONE);
        c.due("joined below 0", x.joined(-1, 0, 1), NONE);
        c.due("joined behind wrong sets", x.joined(3, 0, 1), 1);
        SleepOffice y = new SleepOffice();
        y.person(1, NONE, NONE, NONE, NONE);
        c.due("one that did not come yet", y.join(2, 0), NEVER);
    }

    /** Nothing of a greater set that was asked before goes into a smaller one: 2 would do with 0 and 1 as well. */
    private static void smallBehindGreat() {
        SleepOffice x = Checks.officeOn(100);
        x.person(1, 10, 0, 7, NONE);
        x.person(1, 10, 0, 7, NONE);
        for (int p = 2; p < 8; p++) {
            x.person(p, 10, 0, NONE, NONE);
        }
        c.due("worth of eight", x.join(255, 0), 9);
        c.due("ways of eight, two of them as one", x.join(255, 1), 877);
        c.due("worth of two", x.join(3, 0), 9);
        c.due("ways of two", x.join(3, 1), 1);
        c.due("sure of eight", x.joined(255, 0, 1), 2);
        c.due("sure of two", x.joined(3, 0, 1), 2);
        c.due("likely of eight", x.joined(255, 1, 2), 1);
        c.due("likely of two", x.joined(6, 1, 2), 1);
    }

    /** 0 and 1 are barred, 2 goes with either: two BEST ones. */
    private static void bars() {
        SleepOffice x = Checks.officeOn(100);
        x.person(1, 10, NONE, 7, NONE);
        x.person(1, 11, NONE, 7, NONE);
        x.person(1, NONE, NONE, 7, NONE);
        c.due("worth", x.join(7, 0), 4);
        c.due("ways", x.join(7, 1), 2);
        c.due("barred", x.joined(7, 0, 1), 0);
        c.due("likely with one", x.joined(7, 0, 2), 1);
        c.due("likely with the other one", x.joined(7, 2, 1), 1);
        c.due("sure without it", x.joined(5, 0, 2), 2);
    }
}
