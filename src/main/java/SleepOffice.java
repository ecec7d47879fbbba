import java.util.ArrayList;

/** An office for money that sleeps, as ../shared/DOC.md promises it; words in its comments are that document's. */
public final class SleepOffice {

    public static final int NONE = -1;

    private static final int YEAR = 360;
    private static final int LAST_DAY = 19999;
    private static final int LONGEST_STEP = 9999;
    private static final int STATES = 4;
    private static final int KINDS = 4;
    private static final int SORTS = 6;
    private static final int YEARS = 20;
    private static final int MOST_FIRMS = 8;
    private static final int MOST_PERSONS = 24;
    private static final int MOST_ACCOUNTS = 40;
    private static final int MOST_ENTRIES = 600;
    private static final int MOST_GROWTHS = 4;
    private static final int MOST_CLAIMS = 60;
    private static final int MOST_JOINED = 8;
    private static final int TAPE_ROOM = 600;
    private static final int FED_AT_ONCE = 20;
    private static final int GREATEST_AMOUNT = 9999999;
    private static final int GREATEST_INT = 2147483647;

    private int now = 0;
    private final ArrayList<Firm> firms = new ArrayList<>();
    private final ArrayList<Person> persons = new ArrayList<>();
    private final ArrayList<Account> accounts = new ArrayList<>();
    private final ArrayList<Claim> claims = new ArrayList<>();
    private int entriesTold = 0;
    private final byte[] tape = new byte[TAPE_ROOM];
    private int tapeLength = 0;
    private final Law plainLaw = new Law(0);
    private final Law[] laws = {plainLaw, plainLaw, plainLaw, plainLaw};
    private int lawFault = 0;
    private int lawFaultPlace = NONE;
    private final ProofScale scale = new ProofScale();
    private final Joining joining = new Joining();
    private final int[] lookCosts = new int[YEARS];
    private final Chooser chooser = new Chooser();

    public SleepOffice() {
        for (int y = 0; y < lookCosts.length; y++) {
            lookCosts[y] = 1;
        }
    }

    public int days(int n) {
        if (n < 1 || n > LONGEST_STEP || now + n > LAST_DAY) {
            return NONE;
        }
        now += n;
        return now;
    }

    // ---- firms

    public int firm(int state) {
        if (!isWithin(state, STATES) || firms.size() >= MOST_FIRMS) {
            return NONE;
        }
        Firm firm = new Firm(firms.size(), state);
        firms.add(firm);
        return firm.number;
    }

    public boolean merge(int f, int g, int day) {
        Firm firm = firmAt(f);
        Firm other = firmAt(g);
        if (firm == null || other == null || firm == other || !isPast(day)) {
            return false;
        }
        if (firm.into != null || other.isMergedBy(day) || tookOneSince(firm, day)) {
            return false;
        }
        firm.into = other;
        firm.mergeDay = day;
        return true;
    }

    public int firmOn(int f, int day) {
        Firm firm = firmAt(f);
        if (firm == null || day < 0 || day > LAST_DAY) {
            return NONE;
        }
        return holderOn(firm, day).number;
    }

    private Firm firmAt(int f) {
        return f < 0 || f >= firms.size() ? null : firms.get(f);
    }

    private boolean tookOneSince(Firm firm, int day) {
        for (int i = 0; i < firms.size(); i++) {
            Firm one = firms.get(i);
            if (one.into == firm && one.mergeDay >= day) {
                return true;
            }
        }
        return false;
    }

    /** Merge days grow along the way, so it never comes round; the counter only makes that plain. */
    private static Firm holderOn(Firm firm, int day) {
        Firm holder = firm;
        for (int steps = 0; steps < MOST_FIRMS && holder.into != null && holder.mergeDay <= day; steps++) {
            holder = holder.into;
        }
        return holder;
    }

    // ---- persons

    public int person(int name, int born, int home, int mark, int parent) {
        if (persons.size() >= MOST_PERSONS || !isWithin(name, 100)) {
            return NONE;
        }
        boolean bornCanBe = born == NONE || isPast(born);
        boolean markCanBe = mark == NONE || isWithin(mark, 10000);
        Person parentOrNull = personAt(parent);
        boolean parentCanBe = parent == NONE || parentOrNull != null;
        if (!bornCanBe || !isHome(home) || !markCanBe || !parentCanBe) {
            return NONE;
        }
        Person person = new Person(persons.size(), name, born, mark, parentOrNull);
        person.home = home;
        persons.add(person);
        countLines();
        return person.number;
    }

    public boolean dies(int p, int day) {
        Person person = personAt(p);
        if (person == null || !person.lives() || !isPast(day) || day < person.born) {
            return false;
        }
        person.died = day;
        countLines();
        return true;
    }

    public boolean moves(int p, int home) {
        Person person = personAt(p);
        if (person == null || !isHome(home)) {
            return false;
        }
        person.home = home;
        return true;
    }

    private Person personAt(int p) {
        return p < 0 || p >= persons.size() ? null : persons.get(p);
    }

    // ---- accounts, acts and growths

    public int account(int firm, int kind, int owner, int day) {
        Firm keeper = firmAt(firm);
        Person person = personAt(owner);
        if (keeper == null || person == null || !isWithin(kind, KINDS) || !isPast(day)) {
            return NONE;
        }
        if (keeper.isMergedBy(day) || accounts.size() >= MOST_ACCOUNTS) {
            return NONE;
        }
        Account account = new Account(accounts.size(), keeper, kind, person, day);
        accounts.add(account);
        return account.number;
    }

    public boolean act(int a, int sort, int day, int amount) {
        Account account = accountAt(a);
        if (account == null || !takesEntry(account, day) || !isWithin(sort, SORTS)) {
            return false;
        }
        if (amount < -GREATEST_AMOUNT || amount > GREATEST_AMOUNT) {
            return false;
        }
        account.tell(new Entry(sort, day, now, 1, 1, amount));
        entriesTold++;
        return true;
    }

    public boolean grow(int a, int day, int up, int by) {
        Account account = accountAt(a);
        if (account == null || !takesEntry(account, day) || up < 1 || up > 9 || by < 1 || by > 9) {
            return false;
        }
        if (account.growths >= MOST_GROWTHS || account.grewOn(day)) {
            return false;
        }
        account.tell(new Entry(Entry.GROWTH, day, now, up, by, 0));
        account.growths++;
        entriesTold++;
        return true;
    }

    public long sum(int a, int day, int known) {
        Account account = accountAt(a);
        if (account == null || !isPast(day) || !isPast(known)) {
            return NONE;
        }
        return account.askedSum(day, known);
    }

    private Account accountAt(int a) {
        return a < 0 || a >= accounts.size() ? null : accounts.get(a);
    }

    private boolean takesEntry(Account account, int day) {
        return day >= account.began && day <= now && entriesTold < MOST_ENTRIES;
    }

    // ---- the tape and the laws

    public int feed(int a, int b, int c, int d, int e) {
        if (tapeLength + FED_AT_ONCE > tape.length) {
            return NONE;
        }
        putBytes(a);
        putBytes(b);
        putBytes(c);
        putBytes(d);
        putBytes(e);
        return tapeLength;
    }

    public boolean end(int n) {
        if (n < 0 || n > tapeLength) {
            return false;
        }
        tapeLength = n;
        return true;
    }

    public int reads(int s) {
        int length = tapeLength;
        tapeLength = 0;
        if (!isWithin(s, laws.length)) {
            return NONE;
        }
        LawReader reader = new LawReader(Token.split(tape, length));
        reader.readLines();
        lawFault = reader.fault;
        lawFaultPlace = reader.faultPlace;
        if (lawFault != 0) {
            return NONE;
        }
        laws[s] = reader.law;
        return reader.law.lines;
    }

    public int fault(int what) {
        switch (what) {
            case 0:
                return lawFault;
            case 1:
                return lawFaultPlace;
            default:
                return NONE;
        }
    }

    public int told(int s, int what) {
        if (!isWithin(s, STATES)) {
            return NONE;
        }
        Law law = lawOf(s);
        if (isWithin(what, KINDS)) {
            return law.yearsOfSleep(what);
        }
        switch (what) {
            case 4:
                return law.sortsThatCount();
            case 5:
                return law.letter;
            case 6:
                return law.fee;
            case 7:
                return law.interest;
            case 8:
                return law.interestYears;
            default:
                return NONE;
        }
    }

    private void putBytes(int number) {
        for (int shift = 24; shift >= 0; shift -= 8) {
            if (tapeLength < tape.length) {
                tape[tapeLength] = (byte) (number >> shift);
                tapeLength++;
            }
        }
    }

    /** A state that is none such has the plain law, so that no caller meets null. */
    private Law lawOf(int state) {
        return isWithin(state, laws.length) ? laws[state] : plainLaw;
    }

    // ---- sleep, reports and what is held

    public int sleep(int a, int known, int what) {
        Account account = accountAt(a);
        if (account == null || !isPast(known)) {
            return NONE - 99999;
        }
        int owed = owedOn(account, known);
        int from = sleepDay(account, known);
        switch (what) {
            case 0:
                return from;
            case 1:
                return from - lawOf(owed).letter;
            case 2:
                return known >= from ? 1 : 0;
            case 3:
                return owed;
            default:
                return NONE - 99999;
        }
    }

    public int report(int f) {
        Firm firm = firmAt(f);
        if (firm == null || firm.isMergedBy(now)) {
            return NONE;
        }
        int count = 0;
        for (int i = 0; i < accounts.size(); i++) {
            Account account = accounts.get(i);
            if (!account.isHeld() && holderOn(account.firm, now) == firm && sleepDay(account, now) <= now) {
                hold(account);
                count++;
            }
        }
        return count;
    }

    public long held(int a, int what) {
        Account account = accountAt(a);
        if (account == null || !account.isHeld()) {
            return NONE;
        }
        switch (what) {
            case 0:
                return account.heldBy;
            case 1:
                return account.heldSum;
            case 2:
                return account.heldDay;
            case 3:
                return account.lateBy;
            case 4:
                return interestOf(account);
            case 5:
                return paidOf(account);
            default:
                return NONE;
        }
    }

    private static int owedOn(Account account, int day) {
        int home = account.owner.home;
        return home == NONE ? holderOn(account.firm, day).state : home;
    }

    private int sleepDay(Account account, int known) {
        Law law = lawOf(owedOn(account, known));
        return account.lastStir(law.sortsThatCount(), known) + law.yearsOfSleep(account.kind) * YEAR;
    }

    private void hold(Account account) {
        account.lateBy = now - sleepDay(account, now);
        account.heldBy = owedOn(account, now);
        account.heldSum = account.askedSum(now, now);
        account.heldDay = now;
    }

    /** What is held is parted first, since the whole product may be beyond a long. */
    private long interestOf(Account account) {
        Law law = lawOf(account.heldBy);
        long times = (long) law.interest * Math.min(now - account.heldDay, law.interestYears * YEAR);
        return account.heldSum / 360000 * times + account.heldSum % 360000 * times / 360000;
    }

    private long paidOf(Account account) {
        long paid = 0;
        for (int i = 0; i < claims.size(); i++) {
            Claim claim = claims.get(i);
            if (claim.account == account && claim.standing == Claim.PAID) {
                paid += claim.paid;
            }
        }
        return paid;
    }

    // ---- owners under several names

    public int points(int p, int q) {
        Person one = personAt(p);
        Person other = personAt(q);
        if (one == null || other == null || one == other) {
            return NONE - 1;
        }
        return one.isBarredFrom(other) ? NONE : one.pointsWith(other);
    }

    public int join(int set, int what) {
        if (what < 0 || what > 1 || !gather(set)) {
            return NONE - 9999;
        }
        return what == 0 ? joining.greatestWorth() : joining.countBest();
    }

    public int joined(int set, int p, int q) {
        Person one = personAt(p);
        Person other = personAt(q);
        if (one == null || other == null || one == other || !gather(set)) {
            return NONE;
        }
        int pair = joining.seatBit(one) | joining.seatBit(other);
        if (Integer.bitCount(pair) != 2) {
            return NONE;
        }
        int together = joining.countBestWith(pair);
        if (together == 0) {
            return 0;
        }
        return together == joining.countBest() ? 2 : 1;
    }

    /** Seats the persons of a set and reckons its joinings; false if one can't be. */
    private boolean gather(int set) {
        joining.clear();
        if (set <= 0 || set >> MOST_PERSONS != 0) {
            return false;
        }
        for (int p = 0; p < MOST_PERSONS; p++) {
            if ((set >> p & 1) == 1) {
                Person person = personAt(p);
                if (person == null || !joining.seat(person)) {
                    return false;
                }
            }
        }
        joining.reckon();
        return true;
    }

    // ---- heirs

    public int heirs(int p) {
        Person person = personAt(p);
        return person == null || person.lives() ? NONE : countHeirs(person);
    }

    public long share(int p, int q, int what) {
        Person dead = personAt(p);
        Person heir = personAt(q);
        if (dead == null || heir == null || dead.lives() || what < 0 || what > 1) {
            return NONE;
        }
        int parts = partsFor(dead, heir);
        if (what == 0) {
            return parts == 0 ? 0 : 1;
        }
        return parts == 0 ? 1 : parts;
    }

    /** Children stand behind their parents, so from the end each line is known before its parent asks. */
    private void countLines() {
        for (int i = 0; i < persons.size(); i++) {
            persons.get(i).lines = 0;
        }
        for (int i = persons.size() - 1; i >= 0 && i < persons.size(); i--) {
            Person person = persons.get(i);
            if (person.parent != null && (person.lives() || person.lines > 0)) {
                person.parent.lines++;
            }
        }
    }

    /** An heir has one way up alone, so its share is one of so many parts; 0 for one that is no heir. */
    private static int partsFor(Person dead, Person heir) {
        if (!heir.lives()) {
            return 0;
        }
        int parts = 1;
        Person up = heir.parent;
        for (int steps = 0; steps < MOST_PERSONS && up != null && !up.lives(); steps++) {
            parts *= up.lines;
            if (up == dead) {
                return parts;
            }
            up = up.parent;
        }
        return 0;
    }

    private int countHeirs(Person dead) {
        int count = 0;
        for (int i = 0; i < persons.size(); i++) {
            if (partsFor(dead, persons.get(i)) > 0) {
                count++;
            }
        }
        return count;
    }

    // ---- claims

    public int claim(int p, int a, int points, int fee) {
        Person person = personAt(p);
        Account account = accountAt(a);
        if (person == null || account == null || !account.isHeld() || claims.size() >= MOST_CLAIMS) {
            return NONE;
        }
        if (!isWithin(points, 100) || !isWithin(fee, 101)) {
            return NONE;
        }
        claims.add(new Claim(person, account, points, fee));
        return claims.size() - 1;
    }

    public long claimOf(int c, int what) {
        Claim claim = claimAt(c);
        if (claim == null) {
            return NONE;
        }
        switch (what) {
            case 0:
                return claim.person.number;
            case 1:
                return claim.account.number;
            case 2:
                return pointsAsked(claim.account);
            case 3:
                return isGood(claim) ? 1 : 0;
            case 4:
                return claim.paid;
            case 5:
                return claim.toFinder;
            case 6:
                return claim.standing;
            default:
                return NONE;
        }
    }

    public long pay(int c) {
        Claim claim = claimAt(c);
        if (claim == null || claim.standing != Claim.OPEN || !isGood(claim) || wasPaidBefore(claim)) {
            return NONE;
        }
        int parts = partsOf(claim);
        if (parts <= 0) {
            return NONE;
        }
        long whole = claim.account.heldSum + interestOf(claim.account);
        long part = whole / parts;
        if (paidOf(claim.account) + part > whole) {
            return NONE;
        }
        claim.standing = Claim.PAID;
        claim.paid = part;
        claim.toFinder = part * Math.min(claim.fee, lawOf(claim.account.heldBy).fee) / 100;
        return part;
    }

    public long back(int c) {
        Claim claim = claimAt(c);
        if (claim == null || claim.standing != Claim.PAID || isGood(claim)) {
            return NONE;
        }
        claim.standing = Claim.TAKEN_BACK;
        return claim.paid;
    }

    private Claim claimAt(int c) {
        return c < 0 || c >= claims.size() ? null : claims.get(c);
    }

    private int pointsAsked(Account account) {
        Person owner = account.owner;
        scale.sum = (int) Math.min(account.heldSum, GREATEST_INT);
        scale.years = (now - account.heldDay) / YEAR;
        scale.kind = account.kind;
        scale.heirs = owner.lives() ? 0 : countHeirs(owner);
        return scale.greatest(lawOf(account.heldBy));
    }

    /** One of how many parts the claim is for; 0 if its person has no right. */
    private static int partsOf(Claim claim) {
        Person owner = claim.account.owner;
        if (owner.lives()) {
            return claim.person == owner ? 1 : 0;
        }
        return partsFor(owner, claim.person);
    }

    private boolean isGood(Claim claim) {
        return partsOf(claim) > 0 && claim.points >= pointsAsked(claim.account);
    }

    private boolean wasPaidBefore(Claim claim) {
        for (int i = 0; i < claims.size(); i++) {
            Claim one = claims.get(i);
            if (one.standing == Claim.PAID && one.person == claim.person && one.account == claim.account) {
                return true;
            }
        }
        return false;
    }

    // ---- years with gaps

    public boolean figure(int f, int y, int v) {
        Firm firm = firmAt(f);
        boolean canBe = v == NONE || isWithin(v, 1000000);
        return firm != null && canBe && firm.setFigure(y, v);
    }

    public boolean costs(int y, int c) {
        if (!isWithin(y, lookCosts.length) || c < 1 || c > 99) {
            return false;
        }
        lookCosts[y] = c;
        return true;
    }

    public int audit(int f, int what) {
        Firm firm = firmAt(f);
        if (firm == null) {
            return NONE;
        }
        if (what == 0 || what == 1) {
            return spanEnd(firm, what == 1);
        }
        if (what >= 10 && what < 10 + YEARS) {
            return firm.leastIn(what - 10);
        }
        if (what >= 40 && what < 40 + YEARS) {
            return firm.greatestIn(what - 40);
        }
        return NONE;
    }

    public int looks(int f, int k, int purse, int what) {
        Firm firm = firmAt(f);
        if (firm == null || !isWithin(k, YEARS + 1) || !isWithin(purse, 1000)) {
            return NONE;
        }
        chooser.choose(firm, lookCosts, k, purse);
        switch (what) {
            case 0:
                return chooser.chosenSet();
            case 1:
                return chooser.chosenGain();
            case 2:
                return chooser.chosenCost();
            default:
                return NONE;
        }
    }

    private static int spanEnd(Firm firm, boolean greatest) {
        int total = 0;
        for (int y = 0; y < YEARS; y++) {
            total += greatest ? firm.greatestIn(y) : firm.leastIn(y);
        }
        return total;
    }

    // ---- the whole office

    public long look(int what) {
        switch (what) {
            case 0:
                return now;
            case 1:
                return firms.size();
            case 2:
                return persons.size();
            case 3:
                return accounts.size();
            case 4:
                return entriesTold;
            case 5:
                return countHeld();
            case 6:
                return sumHeld();
            case 7:
                return sumPaid();
            case 8:
                return claims.size();
            default:
                return NONE;
        }
    }

    private int countHeld() {
        int count = 0;
        for (int i = 0; i < accounts.size(); i++) {
            if (accounts.get(i).isHeld()) {
                count++;
            }
        }
        return count;
    }

    private long sumHeld() {
        long total = 0;
        for (int i = 0; i < accounts.size(); i++) {
            total += accounts.get(i).heldSum;
        }
        return total;
    }

    private long sumPaid() {
        long total = 0;
        for (int i = 0; i < accounts.size(); i++) {
            total += paidOf(accounts.get(i));
        }
        return total;
    }

    private static boolean isWithin(int n, int bound) {
        return n >= 0 && n < bound;
    }

    private boolean isPast(int day) {
        return day >= 0 && day <= now;
    }

    private static boolean isHome(int home) {
        return home == NONE || isWithin(home, STATES);
    }

    private static final class Firm {
        final int number;
        final int state;
        Firm into = null;
        int mergeDay = NONE;
        private final int[] figures = new int[YEARS];

        Firm(int number, int state) {
            this.number = number;
            this.state = state;
            for (int y = 0; y < figures.length; y++) {
                figures[y] = NONE;
            }
        }

        boolean isMergedBy(int day) {
            return into != null && mergeDay <= day;
        }

        boolean setFigure(int y, int v) {
            if (!isWithin(y, figures.length)) {
                return false;
            }
            figures[y] = v;
            return true;
        }

        boolean isGap(int y) {
            return isWithin(y, figures.length) && figures[y] == NONE;
        }

        int leastIn(int y) {
            int ahead = figureAhead(y);
            int behind = figureBehind(y);
            return ahead == NONE || behind == NONE ? 0 : Math.min(ahead, behind);
        }

        int greatestIn(int y) {
            return Math.max(0, Math.max(figureAhead(y), figureBehind(y)));
        }

        /** The year's own figure counts as the nearest on both sides. */
        private int figureAhead(int y) {
            for (int i = y; i >= 0 && i < figures.length; i--) {
                if (figures[i] != NONE) {
                    return figures[i];
                }
            }
            return NONE;
        }

        private int figureBehind(int y) {
            for (int i = y; i >= 0 && i < figures.length; i++) {
                if (figures[i] != NONE) {
                    return figures[i];
                }
            }
            return NONE;
        }
    }

    private static final class Person {
        final int number;
        final int name;
        final int born;
        final int mark;
        final Person parent;
        int home = NONE;
        int died = NONE;
        /** How many of its children's lines have anybody that lives. */
        int lines = 0;

        Person(int number, int name, int born, int mark, Person parent) {
            this.number = number;
            this.name = name;
            this.born = born;
            this.mark = mark;
            this.parent = parent;
        }

        boolean lives() {
            return died == NONE;
        }

        int pointsWith(Person other) {
            int points = name == other.name ? 3 : 0;
            points += isKnownAlike(mark, other.mark) ? 6 : 0;
            points += isKnownAlike(home, other.home) ? 1 : 0;
            points += isKnownAlike(born, other.born) ? 4 : 0;
            return points;
        }

        boolean isBarredFrom(Person other) {
            return isKnownUnlike(born, other.born) || isKnownUnlike(mark, other.mark)
                || diedAheadOf(other) || other.diedAheadOf(this);
        }

        private boolean diedAheadOf(Person other) {
            return died != NONE && other.born != NONE && died < other.born;
        }

        private static boolean isKnownAlike(int one, int other) {
            return one != NONE && one == other;
        }

        private static boolean isKnownUnlike(int one, int other) {
            return one != NONE && other != NONE && one != other;
        }
    }

    /** An act or a growth: what there was becomes that times up by by, and the amount is added. */
    private static final class Entry {
        static final int GROWTH = -1;

        final int sort;
        final int day;
        final int toldOn;
        final int up;
        final int by;
        final int amount;

        Entry(int sort, int day, int toldOn, int up, int by, int amount) {
            this.sort = sort;
            this.day = day;
            this.toldOn = toldOn;
            this.up = up;
            this.by = by;
            this.amount = amount;
        }

        long changed(long before) {
            return (by > 0 ? Math.floorDiv(before * up, (long) by) : before) + amount;
        }

        boolean comesAhead(Entry other) {
            return day < other.day || day == other.day && (sort == GROWTH || other.sort != GROWTH);
        }
    }

    private static final class Account {
        final int number;
        final Firm firm;
        final int kind;
        final Person owner;
        final int began;
        /** By their days, on one day the growth first, so that one way through them gives the sum. */
        private final ArrayList<Entry> entries = new ArrayList<>();
        int growths = 0;
        int heldBy = NONE;
        long heldSum = 0;
        int heldDay = NONE;
        int lateBy = 0;

        Account(int number, Firm firm, int kind, Person owner, int began) {
            this.number = number;
            this.firm = firm;
            this.kind = kind;
            this.owner = owner;
            this.began = began;
        }

        boolean isHeld() {
            return heldBy != NONE;
        }

        void tell(Entry entry) {
            int at = entries.size();
            while (at > 0 && !entries.get(at - 1).comesAhead(entry)) {
                at--;
            }
            entries.add(at, entry);
        }

        boolean grewOn(int day) {
            for (int i = 0; i < entries.size(); i++) {
                Entry entry = entries.get(i);
                if (entry.day == day && entry.sort == Entry.GROWTH) {
                    return true;
                }
            }
            return false;
        }

        /** Below 0 it goes on inside, and counts as 0 only in the answer. */
        long askedSum(int day, int known) {
            long total = 0;
            for (int i = 0; i < entries.size(); i++) {
                Entry entry = entries.get(i);
                if (entry.day <= day && entry.toldOn <= known) {
                    total = entry.changed(total);
                }
            }
            return Math.max(0L, total);
        }

        /** No act is ahead of the beginning, so that is where an account without one stands too. */
        int lastStir(int sorts, int known) {
            int last = began;
            for (int i = 0; i < entries.size(); i++) {
                Entry entry = entries.get(i);
                boolean counts = entry.sort != Entry.GROWTH && (sorts >> entry.sort & 1) == 1;
                if (counts && entry.toldOn <= known) {
                    last = Math.max(last, entry.day);
                }
            }
            return last;
        }
    }

    private static final class Claim {
        static final int OPEN = 0;
        static final int PAID = 1;
        static final int TAKEN_BACK = 2;

        final Person person;
        final Account account;
        final int points;
        final int fee;
        int standing = OPEN;
        long paid = 0;
        long toFinder = 0;

        Claim(Person person, Account account, int points, int fee) {
            this.person = person;
            this.account = account;
            this.points = points;
            this.fee = fee;
        }
    }

    /** A token of a law's text. The proofs' code holds the sorts that reckon as numbers below 0. */
    private static final class Token {
        static final int END = 0;
        static final int NONE_SUCH = 1;
        static final int NUMBER = 2;
        static final int SLEEP = 3;
        static final int ACT = 4;
        static final int LETTER = 5;
        static final int FEE = 6;
        static final int INTEREST = 7;
        static final int PROOF = 8;
        static final int WHEN = 9;
        static final int SUM = 10;
        static final int YEARS_SINCE = 11;
        static final int KIND = 12;
        static final int HEIRS = 13;
        static final int OR = 14;
        static final int AND = 15;
        static final int NOT = 16;
        static final int LINE_END = 17;
        static final int PLUS = 18;
        static final int MINUS = 19;
        static final int TIMES = 20;
        static final int BY = 21;
        static final int OPEN = 22;
        static final int CLOSE = 23;
        static final int LESS = 24;
        static final int EQUAL = 25;
        static final int GREATER = 26;
        private static final int MOST_DIGITS = 5;

        final int sort;
        final int place;
        final int value;

        Token(int sort, int place, int value) {
            this.sort = sort;
            this.place = place;
            this.value = value;
        }

        /** What is no token comes as one too, where the reader stops; the last one is the end, at the length. */
        static ArrayList<Token> split(byte[] text, int length) {
            ArrayList<Token> tokens = new ArrayList<>();
            int at = 0;
            while (at < length) {
                int c = byteAt(text, at);
                int behind = wordEnd(text, at, length);
                if (isLetter(c)) {
                    tokens.add(new Token(keyword(text, at, behind), at, 0));
                } else if (isDigit(c)) {
                    tokens.add(number(text, at, behind));
                } else if (!isBlank(c)) {
                    tokens.add(new Token(signOf(c), at, 0));
                }
                at = Math.max(at + 1, behind);
            }
            tokens.add(new Token(END, length, 0));
            return tokens;
        }

        /** Where the letters or the digits end that stand together from here on. */
        private static int wordEnd(byte[] text, int from, int length) {
            boolean letters = isLetter(byteAt(text, from));
            int at = from;
            while (at < length && (letters ? isLetter(byteAt(text, at)) : isDigit(byteAt(text, at)))) {
                at++;
            }
            return at;
        }

        private static Token number(byte[] text, int from, int to) {
            if (to - from > MOST_DIGITS) {
                return new Token(NONE_SUCH, from, 0);
            }
            int value = 0;
            for (int i = from; i < to; i++) {
                value = value * 10 + byteAt(text, i) - '0';
            }
            return new Token(NUMBER, from, value);
        }

        private static int keyword(byte[] text, int from, int to) {
            for (int word = SLEEP; word <= NOT; word++) {
                if (isSpelled(spelling(word), text, from, to)) {
                    return word;
                }
            }
            return NONE_SUCH;
        }

        private static boolean isSpelled(String word, byte[] text, int from, int to) {
            if (word.length() != to - from) {
                return false;
            }
            for (int i = 0; i < word.length(); i++) {
                if (word.charAt(i) != byteAt(text, from + i)) {
                    return false;
                }
            }
            return true;
        }

        private static int byteAt(byte[] text, int i) {
            return isWithin(i, text.length) ? text[i] : 0;
        }

        private static boolean isBlank(int c) {
            return c == 32 || c == 10;
        }

        private static boolean isLetter(int c) {
            return c >= 'a' && c <= 'z' || c >= 'A' && c <= 'Z';
        }

        private static boolean isDigit(int c) {
            return c >= '0' && c <= '9';
        }

        private static String spelling(int keyword) {
            switch (keyword) {
                case SLEEP:
                    return "sleep";
                case ACT:
                    return "act";
                case LETTER:
                    return "letter";
                case FEE:
                    return "fee";
                case INTEREST:
                    return "interest";
                case PROOF:
                    return "proof";
                case WHEN:
                    return "when";
                case SUM:
                    return "sum";
                case YEARS_SINCE:
                    return "years";
                case KIND:
                    return "kind";
                case HEIRS:
                    return "heirs";
                case OR:
                    return "or";
                case AND:
                    return "and";
                case NOT:
                    return "not";
                default:
                    return "";
            }
        }

        private static int signOf(int c) {
            switch (c) {
                case ';':
                    return LINE_END;
                case '+':
                    return PLUS;
                case '-':
                    return MINUS;
                case '*':
                    return TIMES;
                case '/':
                    return BY;
                case '(':
                    return OPEN;
                case ')':
                    return CLOSE;
                case '<':
                    return LESS;
                case '=':
                    return EQUAL;
                case '>':
                    return GREATER;
                default:
                    return NONE_SUCH;
            }
        }
    }

    private static final class Law {
        int lines = 0;
        private final int[] sleepYears = {5, 5, 5, 5};
        int sorts = 0;
        int letter = 30;
        int fee = 10;
        int interest = 0;
        int interestYears = 0;
        /** The proof lines in postfix: numbers as they are, tokens below 0. */
        private final int[] code;
        private int codeLength = 0;

        Law(int codeRoom) {
            code = new int[Math.max(0, codeRoom)];
        }

        void setSleep(int kind, int years) {
            if (isWithin(kind, sleepYears.length)) {
                sleepYears[kind] = years;
            }
        }

        int yearsOfSleep(int kind) {
            return isWithin(kind, sleepYears.length) ? sleepYears[kind] : 0;
        }

        int sortsThatCount() {
            return sorts == 0 ? (1 << SORTS) - 1 : sorts;
        }

        void addCode(int step) {
            if (isWithin(codeLength, code.length)) {
                code[codeLength] = step;
                codeLength++;
            }
        }

        int codeLength() {
            return codeLength;
        }

        int codeAt(int i) {
            return isWithin(i, code.length) ? code[i] : 0;
        }
    }

    /** Reads tokens as a law. At the first fault no token comes any more, so that every loop ends. */
    private static final class LawReader {
        private static final int MOST_LINES = 24;
        private static final int MOST_OPEN = 8;
        private static final int CANNOT_STAND = 1;
        private static final int OUT_OF_RANGE = 2;
        private static final int TOO_MANY = 3;

        final Law law;
        int fault = 0;
        int faultPlace = NONE;
        private final ArrayList<Token> tokens;
        private int next = 0;
        private int sort = Token.END;
        private int place = 0;
        private int value = 0;
        private int open = 0;

        /** No token adds more than one step of code, so there is room for all of them. */
        LawReader(ArrayList<Token> tokens) {
            this.tokens = tokens;
            this.law = new Law(tokens.size());
        }

        void readLines() {
            advance();
            for (int line = 0; line <= MOST_LINES && sort != Token.END && fault == 0; line++) {
                int word = sort;
                if (word < Token.SLEEP || word > Token.PROOF) {
                    refuse(CANNOT_STAND);
                } else if (law.lines >= MOST_LINES) {
                    refuse(TOO_MANY);
                } else {
                    advance();
                    if (word == Token.PROOF) {
                        readTerms();
                        readCondition();
                    } else {
                        readNumbers(word);
                    }
                    closeLine();
                }
            }
        }

        private void readNumbers(int word) {
            switch (word) {
                case Token.SLEEP:
                    int kind = takeNumber(0, KINDS - 1);
                    law.setSleep(kind, takeNumber(0, 40));
                    break;
                case Token.ACT:
                    law.sorts |= 1 << takeNumber(0, SORTS - 1);
                    break;
                case Token.LETTER:
                    law.letter = takeNumber(0, 999);
                    break;
                case Token.FEE:
                    law.fee = takeNumber(0, 100);
                    break;
                default:
                    law.interest = takeNumber(0, 200);
                    law.interestYears = takeNumber(0, 40);
                    break;
            }
        }

        /** Without a when a line is always so. An or is put off until the ands behind it are done. */
        private void readCondition() {
            if (sort != Token.WHEN) {
                law.addCode(-Token.PROOF);
                return;
            }
            advance();
            boolean orWaits = false;
            readTest();
            for (int i = 0; i < tokens.size() && (sort == Token.OR || sort == Token.AND); i++) {
                boolean isOr = sort == Token.OR;
                if (isOr && orWaits) {
                    law.addCode(-Token.OR);
                }
                orWaits = orWaits || isOr;
                advance();
                readTest();
                if (!isOr) {
                    law.addCode(-Token.AND);
                }
            }
            if (orWaits) {
                law.addCode(-Token.OR);
            }
            law.addCode(-Token.WHEN);
        }

        /** Its nots are open up to its end, and two of them take each other away. */
        private void readTest() {
            int nots = 0;
            while (nots <= MOST_OPEN && sort == Token.NOT && opens()) {
                advance();
                nots++;
            }
            readTerms();
            int sign = sort;
            if (sign < Token.LESS || sign > Token.GREATER) {
                refuse(CANNOT_STAND);
                return;
            }
            advance();
            readTerms();
            law.addCode(-sign);
            if (nots % 2 == 1) {
                law.addCode(-Token.NOT);
            }
            open -= nots;
        }

        /** A + or - is put off until the * and / behind it are done. */
        private void readTerms() {
            int waiting = Token.END;
            readUnit();
            for (int i = 0; i < tokens.size() && sort >= Token.PLUS && sort <= Token.BY; i++) {
                int sign = sort;
                boolean adds = sign == Token.PLUS || sign == Token.MINUS;
                if (adds && waiting != Token.END) {
                    law.addCode(-waiting);
                }
                waiting = adds ? sign : waiting;
                advance();
                if (sign == Token.BY) {
                    law.addCode(takeNumber(1, 99999));
                } else {
                    readUnit();
                }
                if (!adds) {
                    law.addCode(-sign);
                }
            }
            if (waiting != Token.END) {
                law.addCode(-waiting);
            }
        }

        private void readUnit() {
            if (sort == Token.NUMBER) {
                law.addCode(value);
                advance();
            } else if (sort >= Token.SUM && sort <= Token.HEIRS) {
                law.addCode(-sort);
                advance();
            } else if (sort != Token.OPEN) {
                refuse(CANNOT_STAND);
            } else if (opens()) {
                advance();
                readTerms();
                open--;
                if (sort == Token.CLOSE) {
                    advance();
                } else {
                    refuse(CANNOT_STAND);
                }
            }
        }

        /** Whether a ( or a not may open here; it is refused if too many are open already. */
        private boolean opens() {
            if (open >= MOST_OPEN) {
                refuse(TOO_MANY);
                return false;
            }
            open++;
            return true;
        }

        private void closeLine() {
            if (sort == Token.LINE_END) {
                law.lines++;
                advance();
            } else {
                refuse(CANNOT_STAND);
            }
        }

        /** Behind a fault it answers the least number, which does no harm: such a law is let go. */
        private int takeNumber(int least, int greatest) {
            int number = value;
            if (sort != Token.NUMBER) {
                refuse(CANNOT_STAND);
                return least;
            }
            if (number < least || number > greatest) {
                refuse(OUT_OF_RANGE);
                return least;
            }
            advance();
            return number;
        }

        /** The reader goes from left to right, so its first fault is the first by its place. */
        private void refuse(int why) {
            if (fault == 0) {
                fault = why;
                faultPlace = place;
            }
            sort = Token.NONE_SUCH;
        }

        private void advance() {
            if (fault != 0 || next < 0 || next >= tokens.size()) {
                return;
            }
            Token token = tokens.get(next);
            next++;
            sort = token.sort;
            place = token.place;
            value = token.value;
        }
    }

    /** Reckons the proof lines of a law for what is told in its fields. */
    private static final class ProofScale {
        int sum = 0;
        int years = 0;
        int kind = 0;
        int heirs = 0;
        /** Eight open brackets with two operands each, and the rest of a line, need fewer than 32. */
        private final int[] stack = new int[32];
        private int top = 0;
        private int greatest = 0;

        int greatest(Law law) {
            top = 0;
            greatest = 0;
            for (int i = 0; i < law.codeLength(); i++) {
                int step = law.codeAt(i);
                if (step >= 0) {
                    push(step);
                } else if (-step <= Token.WHEN) {
                    endLine(-step);
                } else if (-step <= Token.HEIRS) {
                    push(named(-step));
                } else if (-step == Token.NOT) {
                    push(pop() == 0 ? 1 : 0);
                } else {
                    int right = pop();
                    int left = pop();
                    push(combined(-step, left, right));
                }
            }
            return greatest;
        }

        private void endLine(int end) {
            boolean isSo = end == Token.PROOF || pop() != 0;
            int points = pop();
            if (isSo) {
                greatest = Math.max(greatest, points);
            }
        }

        private int named(int name) {
            switch (name) {
                case Token.SUM:
                    return sum;
                case Token.YEARS_SINCE:
                    return years;
                case Token.KIND:
                    return kind;
                default:
                    return heirs;
            }
        }

        private static int combined(int sign, int left, int right) {
            switch (sign) {
                case Token.PLUS:
                    return left + right;
                case Token.MINUS:
                    return left - right;
                case Token.TIMES:
                    return left * right;
                case Token.BY:
                    return right == 0 ? 0 : left / right;
                case Token.LESS:
                    return left < right ? 1 : 0;
                case Token.EQUAL:
                    return left == right ? 1 : 0;
                case Token.GREATER:
                    return left > right ? 1 : 0;
                case Token.AND:
                    return left & right;
                default:
                    return left | right;
            }
        }

        private void push(int number) {
            if (isWithin(top, stack.length)) {
                stack[top] = number;
                top++;
            }
        }

        private int pop() {
            if (!isWithin(top - 1, stack.length)) {
                return 0;
            }
            top--;
            return stack[top];
        }
    }

    /** Joinings of up to eight persons, reckoned over the sets of their seats: a group is such a set. */
    private static final class Joining {
        private static final int SETS = 1 << MOST_JOINED;
        private static final int BARRED = -9999;

        private final Person[] seats = new Person[MOST_JOINED];
        private int seated = 0;
        private final int[] worth = new int[SETS];
        private final int[] best = new int[SETS];
        private final int[] ways = new int[SETS];

        void clear() {
            seated = 0;
        }

        boolean seat(Person person) {
            if (!isWithin(seated, seats.length)) {
                return false;
            }
            seats[seated] = person;
            seated++;
            return true;
        }

        int seatBit(Person person) {
            for (int i = 0; i < seated && i < seats.length; i++) {
                if (seats[i] == person) {
                    return 1 << i;
                }
            }
            return 0;
        }

        void reckon() {
            best[0] = 0;
            ways[0] = 1;
            worth[0] = 0;
            for (int set = 1; set <= everybody() && set < SETS; set++) {
                worth[set] = worthOf(set);
            }
            for (int set = 1; set <= everybody() && set < SETS; set++) {
                part(set);
            }
        }

        int greatestWorth() {
            return best[everybody()];
        }

        int countBest() {
            return ways[everybody()];
        }

        int countBestWith(int pair) {
            int all = everybody();
            int count = 0;
            for (int group = 0; group <= all && group < SETS; group++) {
                boolean has = (group & pair) == pair && worth[group] != BARRED;
                int rest = all ^ group;
                if (has && worth[group] + best[rest] == best[all]) {
                    count += ways[rest];
                }
            }
            return count;
        }

        private int everybody() {
            return (1 << seated) - 1 & SETS - 1;
        }

        /** The first of the set with each of the others, and those others among themselves. */
        private int worthOf(int set) {
            int first = 0;
            while (first < seated && (set >> first & 1) == 0) {
                first++;
            }
            int others = set & set - 1 & SETS - 1;
            int total = worth[others];
            for (int i = first + 1; i < seated && total != BARRED; i++) {
                if ((others >> i & 1) == 1) {
                    int pair = pairWorth(first, i);
                    total = pair == BARRED ? BARRED : total + pair;
                }
            }
            return total;
        }

        private int pairWorth(int i, int j) {
            if (!isWithin(i, seats.length) || !isWithin(j, seats.length)) {
                return BARRED;
            }
            Person one = seats[i];
            Person other = seats[j];
            if (one == null || other == null || one.isBarredFrom(other)) {
                return BARRED;
            }
            return one.pointsWith(other) - 5;
        }

        /** Tries each group in which the first of the set may be; the rest has been parted before. */
        private void part(int set) {
            int first = set & -set;
            int others = set ^ first;
            int greatest = BARRED;
            int count = 0;
            int with = others;
            for (int i = 0; i < SETS && with >= 0; i++) {
                int group = (first | with) & SETS - 1;
                int rest = set & ~group & SETS - 1;
                if (worth[group] != BARRED) {
                    int total = worth[group] + best[rest];
                    if (total > greatest) {
                        greatest = total;
                        count = 0;
                    }
                    count += total == greatest ? ways[rest] : 0;
                }
                with = with == 0 ? -1 : with - 1 & others;
            }
            best[set] = greatest;
            ways[set] = count;
        }
    }

    /**
     * Chooses gaps to look at. Gaps of one run (no figure between them) narrow alike, so of each run only its
     * cheapest ones come in question: that leaves some two thousand sets at most.
     */
    private static final class Chooser {
        private static final int GAIN_SHIFT = 31;
        private static final int COST_SHIFT = 20;

        /** Gain less cost less set, each far above the next: the greatest such number is the set that is due. */
        private final long[] worth = new long[YEARS];
        private final int[] price = new int[YEARS];
        private final int[] nextRun = new int[YEARS];
        private int size = 0;
        private long best = 0;

        void choose(Firm firm, int[] costs, int most, int purse) {
            size = 0;
            int runStart = 0;
            for (int y = 0; y < YEARS && y < costs.length; y++) {
                if (firm.isGap(y)) {
                    addGap(runStart, y, firm.greatestIn(y) - firm.leastIn(y), costs[y]);
                } else {
                    closeRun(runStart);
                    runStart = size;
                }
            }
            closeRun(runStart);
            best = 0;
            search(0, most, purse, 0);
        }

        int chosenGain() {
            return (int) (best + (1L << GAIN_SHIFT) - 1 >> GAIN_SHIFT);
        }

        int chosenCost() {
            return (int) (takenOff() >> COST_SHIFT);
        }

        int chosenSet() {
            return (int) (takenOff() & (1L << COST_SHIFT) - 1);
        }

        private long takenOff() {
            return ((long) chosenGain() << GAIN_SHIFT) - best;
        }

        private void addGap(int runStart, int year, int gain, int cost) {
            if (gain <= 0 || !isWithin(size, YEARS)) {
                return;
            }
            int at = size;
            for (; at > runStart && at > 0 && price[at - 1] > cost; at--) {
                price[at] = price[at - 1];
                worth[at] = worth[at - 1];
            }
            price[at] = cost;
            worth[at] = ((long) gain << GAIN_SHIFT) - ((long) cost << COST_SHIFT) - (1L << year);
            size++;
        }

        private void closeRun(int runStart) {
            for (int i = runStart; i >= 0 && i < size && i < YEARS; i++) {
                nextRun[i] = size;
            }
        }

        /** Takes the next one of its run, or goes on to the next run; each call stands behind the one before. */
        private void search(int at, int left, int purse, long total) {
            best = Math.max(best, total);
            if (left <= 0 || at < 0 || at >= size || at >= YEARS) {
                return;
            }
            if (price[at] <= purse) {
                search(at + 1, left - 1, purse - price[at], total + worth[at]);
            }
            if (nextRun[at] > at) {
                search(nextRun[at], left, purse, total);
            }
        }
    }
}
