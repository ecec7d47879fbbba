/** What the tests share: each wrong answer is printed, and finish() ends with exit code 1 if there was one. */
final class Checks {
    private final String name;
    private int asked = 0;
    private int wrong = 0;

    Checks(String name) {
        this.name = name;
    }

    void due(String call, long got, long want) {
        asked++;
        if (got != want) {
            wrong++;
            System.out.println(name + ": " + call + " answered " + got + ", due is " + want);
        }
    }

    void due(String call, boolean got, boolean want) {
        due(call, got ? 1 : 0, want ? 1 : 0);
    }

    int wrong() {
        return wrong;
    }

    void finish() {
        System.out.println(name + ": " + asked + " answers, " + wrong + " not as due");
        if (wrong != 0) {
            System.exit(1);
        }
    }

    /** Puts a text of up to 600 characters on the tape, which is empty. */
    static void type(SleepOffice x, String text) {
        int[] n = new int[5];
        for (int from = 0; from < text.length(); from += 20) {
            for (int i = 0; i < 20; i++) {
                int c = from + i < text.length() ? text.charAt(from + i) & 255 : 32;
                n[i / 4] = n[i / 4] << 8 | c;
            }
            x.feed(n[0], n[1], n[2], n[3], n[4]);
        }
        x.end(text.length());
    }

    static int read(SleepOffice x, int state, String text) {
        type(x, text);
        return x.reads(state);
    }

    /** Days go by until it is that one. */
    static void until(SleepOffice x, int day) {
        while (x.look(0) < day) {
            x.days((int) Math.min(9999, day - x.look(0)));
        }
    }

    static SleepOffice officeOn(int day) {
        SleepOffice x = new SleepOffice();
        until(x, day);
        return x;
    }
}
