/** Promises 6 to 8: person, dies, moves; and 24, 25: heirs, share. */
public final class PersonsTest {
    private static final int NONE = SleepOffice.NONE;
    private static final Checks c = new Checks("PersonsTest");

    public static void main(String[] args) {
        person();
        dies();
        moves();
        heirs();
        deepShares();
        manyParts();
        c.finish();
    }

    private static void person() {
        SleepOffice x = Checks.officeOn(50);
        c.due("name -1", x.person(-1, NONE, NONE, NONE, NONE), NONE);
        c.due("name 100", x.person(100, NONE, NONE, NONE, NONE), NONE);
        c.due("born -2", x.person(0, -2, NONE, NONE, NONE), NONE);
        c.due("born behind NOW", x.person(0, 51, NONE, NONE, NONE), NONE);
        c.due("home -2", x.person(0, NONE, -2, NONE, NONE), NONE);
        c.due("home 4", x.person(0, NONE, 4, NONE, NONE), NONE);
        c.due("mark -2", x.person(0, NONE, NONE, -2, NONE), NONE);
        c.due("mark 10000", x.person(0, NONE, NONE, 10000, NONE), NONE);
        c.due("parent -2", x.person(0, NONE, NONE, NONE, -2), NONE);
        c.due("parent itself", x.person(0, NONE, NONE, NONE, 0), NONE);
        c.due("nobody came", x.look(2), 0);
        c.due("the greatest of all", x.person(99, 50, 3, 9999, NONE), 0);
        c.due("the least of all", x.person(0, 0, 0, 0, 0), 1);
        for (int p = 2; p < 24; p++) {
            c.due("person " + p, x.person(1, NONE, NONE, NONE, p - 1), p);
        }
        c.due("the 25th", x.person(1, NONE, NONE, NONE, NONE), NONE);
        c.due("persons", x.look(2), 24);
    }

    private static void dies() {
        SleepOffice x = Checks.officeOn(50);
        x.person(1, 20, NONE, NONE, NONE);
        x.person(1, NONE, NONE, NONE, NONE);
        c.due("dies ahead of BORN", x.dies(0, 19), false);
        c.due("dies behind NOW", x.dies(0, 51), false);
        c.due("dies(-1, 30)", x.dies(-1, 30), false);
        c.due("dies(2, 30)", x.dies(2, 30), false);
        c.due("dies on -1, BORN not known", x.dies(1, -1), false);
        c.due("still lives", x.heirs(0), NONE);
        c.due("dies as it is BORN", x.dies(0, 20), true);
        c.due("dies again", x.dies(0, 20), false);
        c.due("dies on 0, BORN not known", x.dies(1, 0), true);
        c.due("it died", x.heirs(0), 0);
        x.person(1, NONE, NONE, NONE, NONE);
        c.due("dies NOW", x.dies(2, 50), true);
    }

    private static void moves() {
        SleepOffice x = new SleepOffice();
        x.firm(3);
        x.person(1, NONE, 1, NONE, NONE);
        x.account(0, 0, 0, 0);
        c.due("owed to the home", x.sleep(0, 0, 3), 1);
        c.due("moves(0, 4)", x.moves(0, 4), false);
        c.due("moves(0, -2)", x.moves(0, -2), false);
        c.due("moves(1, 0)", x.moves(1, 0), false);
        c.due("moves(-1, 0)", x.moves(-1, 0), false);
        c.due("owed as before", x.sleep(0, 0, 3), 1);
        c.due("moves(0, 2)", x.moves(0, 2), true);
        c.due("owed to the new home", x.sleep(0, 0, 3), 2);
        c.due("moves(0, NONE)", x.moves(0, NONE), true);
        c.due("owed to the firm's state", x.sleep(0, 0, 3), 3);
    }

    private static void heirs() {
        SleepOffice x = Checks.officeOn(100);
        x.person(0, NONE, NONE, NONE, NONE);
        x.person(0, NONE, NONE, NONE, 0);
        x.person(0, NONE, NONE, NONE, 0);
        x.person(0, NONE, NONE, NONE, 0);
        x.person(0, NONE, NONE, NONE, 1);
        x.person(0, NONE, NONE, NONE, 1);
        c.due("heirs of one that lives", x.heirs(0), NONE);
        c.due("share in one that lives", x.share(0, 1, 0), NONE);
        c.due("heirs(-1)", x.heirs(-1), NONE);
        c.due("heirs(6)", x.heirs(6), NONE);
        x.dies(0, 10);
        c.due("three children", x.heirs(0), 3);
        fraction(x, 0, 1, 1, 3);
        fraction(x, 0, 4, 0, 1);
        fraction(x, 0, 0, 0, 1);
        c.due("share what 2", x.share(0, 1, 2), NONE);
        c.due("share what -1", x.share(0, 1, -1), NONE);
        c.due("share of nobody", x.share(0, 6, 0), NONE);
        c.due("share of -1", x.share(0, -1, 0), NONE);
        c.due("share in nobody", x.share(6, 0, 0), NONE);
        x.dies(1, 20);
        c.due("two children, two of the third", x.heirs(0), 4);
        fraction(x, 0, 1, 0, 1);
        fraction(x, 0, 2, 1, 3);
        fraction(x, 0, 4, 1, 6);
        fraction(x, 1, 4, 1, 2);
        fraction(x, 1, 2, 0, 1);
        x.dies(2, 20);
        fraction(x, 0, 3, 1, 2);
        fraction(x, 0, 5, 1, 4);
        x.dies(4, 20);
        x.dies(5, 20);
        fraction(x, 0, 3, 1, 1);
        c.due("one is left", x.heirs(0), 1);
        x.dies(3, 20);
        c.due("none is left", x.heirs(0), 0);
        c.due("a child that comes late", x.person(0, NONE, NONE, NONE, 5), 6);
        c.due("it is the only heir", x.heirs(0), 1);
        fraction(x, 0, 6, 1, 1);
    }

    /** One line of 24, of which all but the last one die. */
    private static void deepShares() {
        SleepOffice x = Checks.officeOn(100);
        for (int p = 0; p < 24; p++) {
            x.person(0, NONE, NONE, NONE, p - 1);
        }
        for (int p = 22; p >= 0; p--) {
            x.dies(p, 1);
        }
        c.due("heirs of the first", x.heirs(0), 1);
        fraction(x, 0, 23, 1, 1);
        x.dies(23, 1);
        c.due("nobody", x.heirs(0), 0);
    }

    /** The greatest product that 24 persons allow: seven times three children, then two. */
    private static void manyParts() {
        SleepOffice x = Checks.officeOn(100);
        x.person(0, NONE, NONE, NONE, NONE);
        int parent = 0;
        for (int i = 0; i < 7; i++) {
            int first = x.person(0, NONE, NONE, NONE, parent);
            x.person(0, NONE, NONE, NONE, parent);
            x.person(0, NONE, NONE, NONE, parent);
            x.dies(parent, 5);
            parent = first;
        }
        int last = x.person(0, NONE, NONE, NONE, parent);
        x.person(0, NONE, NONE, NONE, parent);
        x.dies(parent, 5);
        c.due("all came", x.look(2), 24);
        c.due("heirs", x.heirs(0), 16);
        fraction(x, 0, last, 1, 4374);
    }

    private static void fraction(SleepOffice x, int p, int q, long above, long below) {
        c.due("share(" + p + ", " + q + ", 0)", x.share(p, q, 0), above);
        c.due("share(" + p + ", " + q + ", 1)", x.share(p, q, 1), below);
    }
}
