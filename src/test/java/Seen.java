/** All that can be seen of an office without changing it, as one text: what a refused call must leave as it was. */
final class Seen {
    private final SleepOffice x;
    private final StringBuilder text = new StringBuilder();

    private Seen(SleepOffice x) {
        this.x = x;
    }

    static String of(SleepOffice x) {
        Seen seen = new Seen(x);
        seen.counts();
        seen.tapeAndLaws();
        for (int f = 0; f < x.look(1); f++) {
            seen.firm(f);
        }
        for (int p = 0; p < x.look(2); p++) {
            seen.person(p);
        }
        for (int a = 0; a < x.look(3); a++) {
            seen.account(a);
        }
        for (int c = 0; c < x.look(8); c++) {
            for (int what = 0; what <= 6; what++) {
                seen.put("claimOf", x.claimOf(c, what));
            }
        }
        return seen.text.toString();
    }

    private void put(String call, long answer) {
        text.append(call).append(' ').append(answer).append('\n');
    }

    private void counts() {
        for (int what = 0; what <= 8; what++) {
            put("look", x.look(what));
        }
    }

    /** The tape's length is the greatest n that end() takes, and taking that one changes nothing. */
    private void tapeAndLaws() {
        int length = 600;
        while (length > 0 && !x.end(length)) {
            length--;
        }
        put("tape", length);
        put("fault", x.fault(0));
        put("fault", x.fault(1));
        for (int s = 0; s < 4; s++) {
            for (int what = 0; what <= 8; what++) {
                put("told", x.told(s, what));
            }
        }
    }

    private void firm(int f) {
        int now = (int) x.look(0);
        for (int day : new int[] {0, 1, 49, 50, 51, 99, 100, now - 1, now, 19999}) {
            put("firmOn", x.firmOn(f, day));
        }
        for (int y = 0; y < 20; y++) {
            put("least", x.audit(f, 10 + y));
            put("greatest", x.audit(f, 40 + y));
        }
        for (int what = 0; what < 3; what++) {
            put("looks", x.looks(f, 20, 999, what));
            put("looks", x.looks(f, 3, 50, what));
        }
    }

    private void person(int p) {
        put("heirs", x.heirs(p));
        for (int q = 0; q < x.look(2); q++) {
            put("points", x.points(p, q));
            put("above", x.share(p, q, 0));
            put("below", x.share(p, q, 1));
        }
    }

    private void account(int a) {
        int now = (int) x.look(0);
        for (int day : new int[] {0, 10, 100, now - 1, now}) {
            put("sum", x.sum(a, day, now));
            put("sum", x.sum(a, now, day));
            for (int what = 0; what <= 3; what++) {
                put("sleep", x.sleep(a, day, what));
            }
        }
        for (int what = 0; what <= 5; what++) {
            put("held", x.held(a, what));
        }
    }
}
