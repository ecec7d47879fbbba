import java.math.BigInteger;
import java.util.ArrayList;
import java.util.Arrays;
import java.util.HashMap;
import java.util.List;
import java.util.Map;
import java.util.TreeMap;

/** The document's words done as plainly as may be, with all of the library, to compare the class with. */
final class PlainOffice {
    private record Act(int account, int sort, int day, int told, int amount, int up, int by) { }

    private static final class Hold {
        int state;
        long sum;
        int day;
        int late;
    }

    private static final class Claim {
        int person;
        int account;
        int points;
        int fee;
        int standing;
        long paid;
        long finder;
    }

    private int now = 0;
    private final List<Integer> firmStates = new ArrayList<>();
    private final Map<Integer, int[]> merges = new HashMap<>();
    private final List<int[]> persons = new ArrayList<>();
    private final Map<Integer, Integer> deaths = new HashMap<>();
    private final List<int[]> accounts = new ArrayList<>();
    private final List<Act> acts = new ArrayList<>();
    private String tape = "";
    private final PlainLaw[] laws = {new PlainLaw(""), new PlainLaw(""), new PlainLaw(""), new PlainLaw("")};
    private PlainLaw latest = new PlainLaw("");
    private final Map<Integer, Hold> holds = new TreeMap<>();
    private final List<Claim> claims = new ArrayList<>();
    private final Map<Integer, int[]> figures = new HashMap<>();
    private final int[] cost = new int[20];

    PlainOffice() {
        Arrays.fill(cost, 1);
    }

    private static boolean in(int n, int least, int greatest) {
        return least <= n && n <= greatest;
    }

    int days(int n) {
        if (!in(n, 1, 9999) || now + n > 19999) {
            return -1;
        }
        return now += n;
    }

    int firm(int state) {
        if (!in(state, 0, 3) || firmStates.size() == 8) {
            return -1;
        }
        firmStates.add(state);
        int[] gaps = new int[20];
        Arrays.fill(gaps, -1);
        figures.put(firmStates.size() - 1, gaps);
        return firmStates.size() - 1;
    }

    private boolean isFirm(int f) {
        return in(f, 0, firmStates.size() - 1);
    }

    boolean merge(int f, int g, int day) {
        if (!isFirm(f) || !isFirm(g) || f == g || !in(day, 0, now) || merges.containsKey(f)) {
            return false;
        }
        if (merges.containsKey(g) && merges.get(g)[1] <= day) {
            return false;
        }
        for (int[] m : merges.values()) {
            if (m[0] == f && m[1] >= day) {
                return false;
            }
        }
        merges.put(f, new int[] {g, day});
        return true;
    }

    int firmOn(int f, int day) {
        if (!isFirm(f) || !in(day, 0, 19999)) {
            return -1;
        }
        int[] m = merges.get(f);
        return m == null || m[1] > day ? f : firmOn(m[0], day);
    }

    int person(int name, int born, int home, int mark, int parent) {
        boolean can = in(name, 0, 99) && in(born, -1, now) && in(home, -1, 3) && in(mark, -1, 9999)
            && in(parent, -1, persons.size() - 1) && persons.size() < 24;
        if (!can) {
            return -1;
        }
        persons.add(new int[] {name, born, home, mark, parent});
        return persons.size() - 1;
    }

    private boolean isPerson(int p) {
        return in(p, 0, persons.size() - 1);
    }

    boolean dies(int p, int day) {
        if (!isPerson(p) || deaths.containsKey(p) || !in(day, 0, now) || day < persons.get(p)[1]) {
            return false;
        }
        deaths.put(p, day);
        return true;
    }

    boolean moves(int p, int home) {
        if (!isPerson(p) || !in(home, -1, 3)) {
            return false;
        }
        persons.get(p)[2] = home;
        return true;
    }

    int account(int firm, int kind, int owner, int day) {
        if (!isFirm(firm) || !in(kind, 0, 3) || !isPerson(owner) || !in(day, 0, now) || accounts.size() == 40) {
            return -1;
        }
        if (merges.containsKey(firm) && merges.get(firm)[1] <= day) {
            return -1;
        }
        accounts.add(new int[] {firm, kind, owner, day});
        return accounts.size() - 1;
    }

    private boolean isAccount(int a) {
        return in(a, 0, accounts.size() - 1);
    }

    boolean act(int a, int sort, int day, int amount) {
        boolean can = isAccount(a) && in(sort, 0, 5) && in(day, accounts.get(a)[3], now)
            && in(amount, -9999999, 9999999) && acts.size() < 600;
        return can && acts.add(new Act(a, sort, day, now, amount, 0, 0));
    }

    boolean grow(int a, int day, int up, int by) {
        boolean can = isAccount(a) && in(up, 1, 9) && in(by, 1, 9) && in(day, accounts.get(a)[3], now)
            && acts.size() < 600;
        long mine = acts.stream().filter(t -> t.account == a && t.by > 0).count();
        boolean taken = acts.stream().anyMatch(t -> t.account == a && t.by > 0 && t.day == day);
        return can && mine < 4 && !taken && acts.add(new Act(a, -1, day, now, 0, up, by));
    }

    long sum(int a, int day, int known) {
        if (!isAccount(a) || !in(day, 0, now) || !in(known, 0, now)) {
            return -1;
        }
        BigInteger total = BigInteger.ZERO;
        int[] days = acts.stream().filter(t -> t.account == a).mapToInt(Act::day).distinct().sorted().toArray();
        for (int d : days) {
            if (d > day) {
                break;
            }
            for (Act t : acts) {
                if (t.account == a && t.day == d && t.told <= known && t.by > 0) {
                    BigInteger[] parts = total.multiply(BigInteger.valueOf(t.up))
                        .divideAndRemainder(BigInteger.valueOf(t.by));
                    total = parts[1].signum() < 0 ? parts[0].subtract(BigInteger.ONE) : parts[0];
                }
            }
            for (Act t : acts) {
                if (t.account == a && t.day == d && t.told <= known && t.by == 0) {
                    total = total.add(BigInteger.valueOf(t.amount));
                }
            }
        }
        return total.max(BigInteger.ZERO).longValueExact();
    }

    int feed(int a, int b, int c, int d, int e) {
        if (tape.length() > 580) {
            return -1;
        }
        StringBuilder more = new StringBuilder(tape);
        for (int n : new int[] {a, b, c, d, e}) {
            for (int i = 3; i >= 0; i--) {
                more.append((char) (n >>> 8 * i & 255));
            }
        }
        tape = more.toString();
        return tape.length();
    }

    boolean end(int n) {
        if (!in(n, 0, tape.length())) {
            return false;
        }
        tape = tape.substring(0, n);
        return true;
    }

    int reads(int s) {
        String text = tape;
        tape = "";
        if (!in(s, 0, 3)) {
            return -1;
        }
        latest = new PlainLaw(text);
        if (latest.fault != 0) {
            return -1;
        }
        laws[s] = latest;
        return latest.lines;
    }

    int fault(int what) {
        return what == 0 ? latest.fault : what == 1 ? latest.place : -1;
    }

    int told(int s, int what) {
        if (!in(s, 0, 3) || !in(what, 0, 8)) {
            return -1;
        }
        PlainLaw law = laws[s];
        int[] all = {law.sleep[0], law.sleep[1], law.sleep[2], law.sleep[3],
            law.sorts, law.letter, law.fee, law.interest, law.interestYears};
        return all[what];
    }

    int sleep(int a, int known, int what) {
        if (!isAccount(a) || !in(known, 0, now) || !in(what, 0, 3)) {
            return -100000;
        }
        int[] account = accounts.get(a);
        int home = persons.get(account[2])[2];
        int state = home >= 0 ? home : firmStates.get(firmOn(account[0], known));
        PlainLaw law = laws[state];
        int last = acts.stream()
            .filter(t -> t.account == a && t.by == 0 && t.told <= known && (law.sorts >> t.sort & 1) == 1)
            .mapToInt(Act::day).max().orElse(account[3]);
        int from = last + 360 * law.sleep[account[1]];
        int[] all = {from, from - law.letter, known >= from ? 1 : 0, state};
        return all[what];
    }

    int report(int f) {
        if (!isFirm(f) || merges.containsKey(f)) {
            return -1;
        }
        int count = 0;
        for (int a = 0; a < accounts.size(); a++) {
            if (firmOn(accounts.get(a)[0], now) == f && !holds.containsKey(a) && sleep(a, now, 2) == 1) {
                Hold hold = new Hold();
                hold.state = sleep(a, now, 3);
                hold.sum = sum(a, now, now);
                hold.day = now;
                hold.late = now - sleep(a, now, 0);
                holds.put(a, hold);
                count++;
            }
        }
        return count;
    }

    private long interest(int a) {
        Hold hold = holds.get(a);
        PlainLaw law = laws[hold.state];
        int days = Math.min(now - hold.day, 360 * law.interestYears);
        return BigInteger.valueOf(hold.sum).multiply(BigInteger.valueOf(law.interest))
            .multiply(BigInteger.valueOf(days)).divide(BigInteger.valueOf(360000)).longValueExact();
    }

    private long paid(int a) {
        return claims.stream().filter(t -> t.account == a && t.standing == 1).mapToLong(t -> t.paid).sum();
    }

    long held(int a, int what) {
        Hold hold = holds.get(a);
        if (hold == null || !in(what, 0, 5)) {
            return -1;
        }
        long[] all = {hold.state, hold.sum, hold.day, hold.late, interest(a), paid(a)};
        return all[what];
    }

    int points(int p, int q) {
        if (!isPerson(p) || !isPerson(q) || p == q) {
            return -2;
        }
        int[] one = persons.get(p);
        int[] other = persons.get(q);
        int[] weight = {3, 4, 1, 6};
        int total = 0;
        for (int i = 0; i < 4; i++) {
            boolean known = one[i] != -1 && other[i] != -1;
            total += known && one[i] == other[i] ? weight[i] : 0;
            if (known && one[i] != other[i] && (i == 1 || i == 3)) {
                return -1;
            }
        }
        boolean first = deaths.containsKey(p) && other[1] != -1 && deaths.get(p) < other[1];
        boolean second = deaths.containsKey(q) && one[1] != -1 && deaths.get(q) < one[1];
        return first || second ? -1 : total;
    }

    /** Worth, how many are BEST, and in how many of them p and q are in one group. */
    private int[] joinings(int set, int p, int q) {
        if (set <= 0 || Integer.bitCount(set) > 8) {
            return null;
        }
        List<Integer> members = new ArrayList<>();
        for (int i = 0; i < 31; i++) {
            if ((set >> i & 1) == 1) {
                if (!isPerson(i)) {
                    return null;
                }
                members.add(i);
            }
        }
        int[] found = {Integer.MIN_VALUE, 0, 0};
        walk(members, 0, new ArrayList<>(), 0, new int[] {p, q}, found);
        return found;
    }

    private void walk(List<Integer> members, int i, List<List<Integer>> groups, int worth, int[] pair, int[] found) {
        if (i == members.size()) {
            if (worth > found[0]) {
                found[0] = worth;
                found[1] = 0;
                found[2] = 0;
            }
            if (worth == found[0]) {
                found[1]++;
                found[2] += groups.stream().anyMatch(g -> g.contains(pair[0]) && g.contains(pair[1])) ? 1 : 0;
            }
            return;
        }
        int who = members.get(i);
        for (List<Integer> group : new ArrayList<>(groups)) {
            int more = 0;
            boolean barred = false;
            for (int one : group) {
                int points = points(who, one);
                barred |= points == -1;
                more += points - 5;
            }
            if (!barred) {
                group.add(who);
                walk(members, i + 1, groups, worth + more, pair, found);
                group.remove(group.size() - 1);
            }
        }
        List<Integer> alone = new ArrayList<>(List.of(who));
        groups.add(alone);
        walk(members, i + 1, groups, worth, pair, found);
        groups.remove(groups.size() - 1);
    }

    int join(int set, int what) {
        int[] found = in(what, 0, 1) ? joinings(set, -1, -1) : null;
        return found == null ? -10000 : found[what];
    }

    int joined(int set, int p, int q) {
        if (!isPerson(p) || !isPerson(q) || p == q || (set >> p & 1) == 0 || (set >> q & 1) == 0) {
            return -1;
        }
        int[] found = joinings(set, p, q);
        if (found == null) {
            return -1;
        }
        return found[2] == found[1] ? 2 : found[2] > 0 ? 1 : 0;
    }

    private boolean anybody(int p) {
        if (!deaths.containsKey(p)) {
            return true;
        }
        for (int q = 0; q < persons.size(); q++) {
            if (persons.get(q)[4] == p && anybody(q)) {
                return true;
            }
        }
        return false;
    }

    private void part(int p, BigInteger above, BigInteger below, Map<Integer, BigInteger[]> shares) {
        List<Integer> lines = new ArrayList<>();
        for (int q = 0; q < persons.size(); q++) {
            if (persons.get(q)[4] == p && anybody(q)) {
                lines.add(q);
            }
        }
        for (int q : lines) {
            BigInteger more = below.multiply(BigInteger.valueOf(lines.size()));
            if (deaths.containsKey(q)) {
                part(q, above, more, shares);
            } else {
                shares.put(q, new BigInteger[] {above, more});
            }
        }
    }

    private Map<Integer, BigInteger[]> shares(int p) {
        Map<Integer, BigInteger[]> shares = new TreeMap<>();
        part(p, BigInteger.ONE, BigInteger.ONE, shares);
        return shares;
    }

    int heirs(int p) {
        return !isPerson(p) || !deaths.containsKey(p) ? -1 : shares(p).size();
    }

    long share(int p, int q, int what) {
        if (!isPerson(p) || !isPerson(q) || !deaths.containsKey(p) || !in(what, 0, 1)) {
            return -1;
        }
        BigInteger[] share = shares(p).getOrDefault(q, new BigInteger[] {BigInteger.ZERO, BigInteger.ONE});
        return share[what].divide(share[0].gcd(share[1])).longValueExact();
    }

    int claim(int p, int a, int points, int fee) {
        boolean can = isPerson(p) && holds.containsKey(a) && in(points, 0, 99) && in(fee, 0, 100)
            && claims.size() < 60;
        if (!can) {
            return -1;
        }
        Claim claim = new Claim();
        claim.person = p;
        claim.account = a;
        claim.points = points;
        claim.fee = fee;
        claims.add(claim);
        return claims.size() - 1;
    }

    /** Each person with an account that it may claim, for the runs by chance. */
    List<int[]> rightful() {
        List<int[]> pairs = new ArrayList<>();
        for (int a : holds.keySet()) {
            int owner = accounts.get(a)[2];
            if (!deaths.containsKey(owner)) {
                pairs.add(new int[] {owner, a});
                continue;
            }
            for (int p : shares(owner).keySet()) {
                pairs.add(new int[] {p, a});
            }
        }
        return pairs;
    }

    private int asked(Claim claim) {
        Hold hold = holds.get(claim.account);
        int owner = accounts.get(claim.account)[2];
        return laws[hold.state].asked((int) Math.min(2147483647L, hold.sum), (now - hold.day) / 360,
            accounts.get(claim.account)[1], Math.max(0, heirs(owner)));
    }

    private boolean good(Claim claim) {
        int owner = accounts.get(claim.account)[2];
        boolean right = deaths.containsKey(owner) ? share(owner, claim.person, 0) > 0 : owner == claim.person;
        return right && claim.points >= asked(claim);
    }

    long claimOf(int c, int what) {
        if (!in(c, 0, claims.size() - 1) || !in(what, 0, 6)) {
            return -1;
        }
        Claim t = claims.get(c);
        long[] all = {t.person, t.account, asked(t), good(t) ? 1 : 0, t.paid, t.finder, t.standing};
        return all[what];
    }

    long pay(int c) {
        if (!in(c, 0, claims.size() - 1)) {
            return -1;
        }
        Claim t = claims.get(c);
        if (t.standing != 0 || !good(t)) {
            return -1;
        }
        for (Claim one : claims) {
            if (one != t && one.person == t.person && one.account == t.account && one.standing == 1) {
                return -1;
            }
        }
        int owner = accounts.get(t.account)[2];
        BigInteger whole = BigInteger.valueOf(holds.get(t.account).sum + interest(t.account));
        BigInteger part = whole;
        if (deaths.containsKey(owner)) {
            part = whole.multiply(BigInteger.valueOf(share(owner, t.person, 0)))
                .divide(BigInteger.valueOf(share(owner, t.person, 1)));
        }
        if (part.longValueExact() + paid(t.account) > whole.longValueExact()) {
            return -1;
        }
        t.standing = 1;
        t.paid = part.longValueExact();
        int fee = Math.min(t.fee, laws[holds.get(t.account).state].fee);
        t.finder = part.multiply(BigInteger.valueOf(fee)).divide(BigInteger.valueOf(100)).longValueExact();
        return t.paid;
    }

    long back(int c) {
        if (!in(c, 0, claims.size() - 1) || claims.get(c).standing != 1 || good(claims.get(c))) {
            return -1;
        }
        claims.get(c).standing = 2;
        return claims.get(c).paid;
    }

    boolean figure(int f, int y, int v) {
        if (!isFirm(f) || !in(y, 0, 19) || !in(v, -1, 999999)) {
            return false;
        }
        figures.get(f)[y] = v;
        return true;
    }

    boolean costs(int y, int c) {
        if (!in(y, 0, 19) || !in(c, 1, 99)) {
            return false;
        }
        cost[y] = c;
        return true;
    }

    /** Least and greatest of each year. */
    private int[][] bounds(int f) {
        int[] own = figures.get(f);
        int[][] bounds = new int[2][20];
        for (int y = 0; y < 20; y++) {
            List<Integer> near = new ArrayList<>();
            for (int i = y; i >= 0; i--) {
                if (own[i] >= 0) {
                    near.add(own[i]);
                    break;
                }
            }
            for (int i = y; i < 20; i++) {
                if (own[i] >= 0) {
                    near.add(own[i]);
                    break;
                }
            }
            while (near.size() < 2) {
                near.add(0);
            }
            bounds[0][y] = Math.min(near.get(0), near.get(1));
            bounds[1][y] = Math.max(near.get(0), near.get(1));
        }
        return bounds;
    }

    int audit(int f, int what) {
        if (!isFirm(f)) {
            return -1;
        }
        int[][] bounds = bounds(f);
        if (in(what, 0, 1)) {
            return Arrays.stream(bounds[what]).sum();
        }
        return in(what, 10, 29) ? bounds[0][what - 10] : in(what, 40, 59) ? bounds[1][what - 40] : -1;
    }

    /** Goes through every set of gaps. */
    int looks(int f, int k, int purse, int what) {
        if (!isFirm(f) || !in(k, 0, 20) || !in(purse, 0, 999) || !in(what, 0, 2)) {
            return -1;
        }
        int[][] bounds = bounds(f);
        int gaps = 0;
        for (int y = 0; y < 20; y++) {
            gaps |= figures.get(f)[y] < 0 ? 1 << y : 0;
        }
        int[] best = {0, 0, 0};
        for (int set = gaps; set > 0; set = set - 1 & gaps) {
            if (Integer.bitCount(set) > k) {
                continue;
            }
            int gain = 0;
            int price = 0;
            for (int rest = set; rest != 0; rest &= rest - 1) {
                int y = Integer.numberOfTrailingZeros(rest);
                gain += bounds[1][y] - bounds[0][y];
                price += cost[y];
            }
            boolean better = gain > best[1] || gain == best[1] && price < best[2]
                || gain == best[1] && price == best[2] && set < best[0];
            if (price <= purse && better) {
                best = new int[] {set, gain, price};
            }
        }
        return best[what];
    }

    long look(int what) {
        if (!in(what, 0, 8)) {
            return -1;
        }
        long[] all = {now, firmStates.size(), persons.size(), accounts.size(), acts.size(), holds.size(),
            holds.values().stream().mapToLong(t -> t.sum).sum(),
            claims.stream().filter(t -> t.standing == 1).mapToLong(t -> t.paid).sum(), claims.size()};
        return all[what];
    }
}
