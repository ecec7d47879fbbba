import com.sun.management.ThreadMXBean;
import java.lang.management.ManagementFactory;

/** All calls of one run live in one room: what 512 dear calls make stays far below it. */
public final class RoomTest {
    /** The room has some 600,000 objects; at 24 bytes each, a tenth of that. */
    private static final long MOST_BYTES = 600000L * 24 / 10;
    private static final int NONE = SleepOffice.NONE;
    private static final Checks c = new Checks("RoomTest");
    private static final ThreadMXBean threads = (ThreadMXBean) ManagementFactory.getThreadMXBean();

    public static void main(String[] args) {
        String brackets = "proof ((((((((1))))))));";
        // The first time classes are loaded, which is no part of a run.
        for (int i = 0; i < 2; i++) {
            long joined = joinings();
            long looked = looks();
            long read = laws(brackets.repeat(24));
            long shortest = laws(";");
            long claimed = claims();
            if (i == 1) {
                room("joinings", joined);
                room("looks", looked);
                room("laws", read);
                room("laws of one fault", shortest);
                room("claims", claimed);
            }
        }
        c.finish();
    }

    private static void room(String what, long bytes) {
        c.due(what + " make " + bytes + " bytes", bytes <= MOST_BYTES, true);
    }

    private static long made() {
        return threads.getThreadAllocatedBytes(Thread.currentThread().getId());
    }

    private static long joinings() {
        long before = made();
        SleepOffice x = new SleepOffice();
        for (int p = 0; p < 8; p++) {
            x.person(p, 0, 0, NONE, NONE);
        }
        for (int i = 0; i < 252; i++) {
            x.join(255, 1);
            x.joined(255, 0, 7);
        }
        return made() - before;
    }

    private static long looks() {
        long before = made();
        SleepOffice x = new SleepOffice();
        x.firm(0);
        for (int y = 1; y < 20; y += 2) {
            x.figure(0, y, y * 1000);
            x.costs(y - 1, y);
        }
        for (int i = 0; i < 491; i++) {
            x.looks(0, 20, 999, i % 3);
        }
        return made() - before;
    }

    private static long laws(String text) {
        long before = made();
        SleepOffice x = new SleepOffice();
        int calls = (text.length() + 19) / 20 + 2;
        for (int i = 0; i < 512 / calls; i++) {
            Checks.read(x, i % 4, text);
        }
        return made() - before;
    }

    private static long claims() {
        long before = made();
        SleepOffice x = Checks.officeOn(2000);
        x.firm(0);
        for (int p = 0; p < 24; p++) {
            x.person(0, NONE, NONE, NONE, p - 1);
        }
        for (int a = 0; a < 40; a++) {
            x.account(0, 0, 0, 0);
        }
        for (int i = 0; i < 250; i++) {
            x.act(i % 40, 0, i, 1000);
        }
        x.report(0);
        for (int i = 0; i < 60; i++) {
            x.claim(0, i % 40, 0, 0);
            x.pay(i);
        }
        for (int i = 0; i < 75; i++) {
            x.look(7);
        }
        return made() - before;
    }
}
