import java.util.Random;

/** Promises 15 to 17 and 27: laws by chance, with what they tell and ask, against PlainLaw. */
public final class RandomLawsTest {
    private static final int NONE = SleepOffice.NONE;
    private static final int KINDS = 4;
    private static final Checks c = new Checks("RandomLawsTest");

    private final Random random;
    private final SleepOffice x = Checks.officeOn(1800);
    private final int[] sums = new int[KINDS];
    private int years;

    private RandomLawsTest(long seed) {
        random = new Random(seed);
    }

    public static void main(String[] args) {
        long from = args.length > 0 ? Long.parseLong(args[0]) : 1;
        long to = args.length > 1 ? Long.parseLong(args[1]) : 2000;
        for (long seed = from; seed <= to && c.wrong() == 0; seed++) {
            new RandomLawsTest(seed).run(seed);
        }
        c.finish();
    }

    private void run(long seed) {
        openOffice();
        String text = new RandomLaw(random).next(600);
        PlainLaw plain = new PlainLaw(text);
        String name = "law " + seed + " [" + text + "] ";
        c.due(name + "reads", Checks.read(x, 0, text), plain.fault == 0 ? plain.lines : NONE);
        c.due(name + "fault(0)", x.fault(0), plain.fault);
        c.due(name + "fault(1)", x.fault(1), plain.place);
        compare(name, plain.fault == 0 ? plain : new PlainLaw(""));
    }

    /** An account of each kind: those of kinds 0 and 1 of one that lives, the others of one that died, with heirs. */
    private void openOffice() {
        x.firm(0);
        x.person(0, NONE, NONE, NONE, NONE);
        x.person(0, NONE, NONE, NONE, NONE);
        for (int i = random.nextInt(5); i > 0; i--) {
            x.person(0, NONE, NONE, NONE, 1);
        }
        x.dies(1, 0);
        for (int kind = 0; kind < KINDS; kind++) {
            x.account(0, kind, kind / 2, 0);
            sums[kind] = random.nextInt(random.nextBoolean() ? 100 : 10000000);
            x.act(kind, 0, 0, sums[kind]);
        }
        x.report(0);
        for (int kind = 0; kind < KINDS; kind++) {
            x.claim(0, kind, 0, 0);
        }
        int days = 1 + random.nextInt(5000);
        years = days / 360;
        x.days(days);
    }

    private void compare(String name, PlainLaw plain) {
        int[] told = {plain.sleep[0], plain.sleep[1], plain.sleep[2], plain.sleep[3],
            plain.sorts, plain.letter, plain.fee, plain.interest, plain.interestYears};
        for (int what = 0; what < told.length; what++) {
            c.due(name + "told(0, " + what + ")", x.told(0, what), told[what]);
        }
        for (int kind = 0; kind < KINDS; kind++) {
            int asked = plain.asked(sums[kind], years, kind, kind < 2 ? 0 : x.heirs(1));
            c.due(name + "claimOf(" + kind + ", 2)", x.claimOf(kind, 2), asked);
        }
    }
}
