import java.lang.reflect.Method;
import java.util.ArrayList;
import java.util.Arrays;
import java.util.List;
import java.util.Random;

/** All promises: runs of up to 512 calls with arguments by chance, against PlainOffice. */
public final class RandomRunsTest {
    private static final int CALLS = 512;
    /** A method, how often it comes, and what its arguments are. */
    private static final String[] FACE = {
        "days 14 step", "firm 3 state", "merge 4 firm firm day", "firmOn 2 firm anyday",
        "person 8 name day0 home mark parent", "dies 4 person day", "moves 4 person home",
        "account 10 firm kind person day", "act 26 account sort late amount", "grow 6 account late nine nine",
        "sum 8 account day known", "feed 1 any any any any any", "end 1 length", "fault 2 what2",
        "told 4 state what9", "sleep 8 account known what4", "report 5 firm", "held 9 account what6",
        "points 4 person person", "join 3 set what2", "joined 4 set person person", "heirs 3 person",
        "share 4 person person what2", "claim 10 person account hundred hundred", "claimOf 16 claim what7",
        "pay 10 claim", "back 9 claim", "figure 8 firm year value", "costs 3 year cost", "audit 4 firm what60",
        "looks 2 firm k purse what3", "look 6 what9"};

    private static final Checks c = new Checks("RandomRunsTest");
    private static final List<Method> ours = new ArrayList<>();
    private static final List<Method> plain = new ArrayList<>();
    private static final List<String[]> kinds = new ArrayList<>();
    private static final List<Integer> lots = new ArrayList<>();

    private final Random random;
    private final RandomLaw laws;
    private final SleepOffice x = new SleepOffice();
    private final PlainOffice y = new PlainOffice();
    private final List<String> done = new ArrayList<>();
    private int left = CALLS;

    private RandomRunsTest(long seed) {
        random = new Random(seed);
        laws = new RandomLaw(random);
    }

    public static void main(String[] args) throws Exception {
        for (int i = 0; i < FACE.length; i++) {
            String[] words = FACE[i].split(" ");
            kinds.add(Arrays.copyOfRange(words, 2, words.length));
            Class<?>[] ints = new Class<?>[words.length - 2];
            Arrays.fill(ints, int.class);
            ours.add(SleepOffice.class.getMethod(words[0], ints));
            plain.add(PlainOffice.class.getDeclaredMethod(words[0], ints));
            for (int n = Integer.parseInt(words[1]); n > 0; n--) {
                lots.add(i);
            }
        }
        long from = args.length > 0 ? Long.parseLong(args[0]) : 1;
        long to = args.length > 1 ? Long.parseLong(args[1]) : 150;
        for (long seed = from; seed <= to && c.wrong() == 0; seed++) {
            new RandomRunsTest(seed).run(seed);
        }
        c.finish();
    }

    private void run(long seed) throws Exception {
        begin();
        while (left > 0 && c.wrong() == 0) {
            int sort = random.nextInt(50);
            if (sort < 2) {
                law();
            } else if (sort < 8) {
                claimAndPay();
            } else {
                any();
            }
        }
        if (c.wrong() > 0) {
            System.out.println("run " + seed + ":");
            done.forEach(System.out::println);
        }
    }

    /** A start from which most calls find something to do. */
    private void begin() throws Exception {
        call("days", 1 + random.nextInt(random.nextBoolean() ? 4000 : 400));
        for (int i = random.nextInt(4); i >= 0; i--) {
            call("firm", random.nextInt(4));
        }
        for (int i = random.nextInt(14); i >= 0; i--) {
            call("person", draw(kinds.get(index("person"))));
        }
        for (int i = random.nextInt(4); i > 0; i--) {
            call("dies", random.nextInt(4), (int) y.look(0));
        }
        for (int i = random.nextInt(12); i >= 0; i--) {
            call("account", draw(kinds.get(index("account"))));
        }
        for (int a = 0; a < y.look(3); a++) {
            call("act", a, random.nextInt(6), random.nextInt(1 + (int) y.look(0)), random.nextInt(100000));
        }
        for (int i = 6 + random.nextInt(8); i >= 0; i--) {
            call("figure", 0, random.nextInt(20), random.nextInt(random.nextBoolean() ? 5 : 1000000));
        }
    }

    private void any() throws Exception {
        int i = lots.get(random.nextInt(lots.size()));
        int[] args = draw(kinds.get(i));
        if (ours.get(i).getName().equals("looks") && args[0] != 0 && random.nextInt(10) != 0) {
            args[0] = 0;
        }
        if (ours.get(i).getName().equals("joined") && random.nextInt(8) != 0) {
            args[0] |= 1 << (args[1] & 15) | 1 << (args[2] & 15);
        }
        call(ours.get(i).getName(), args);
    }

    /** By one that has a right, mostly; now and then somebody of the family dies then, or the law is another one. */
    private void claimAndPay() throws Exception {
        List<int[]> pairs = y.rightful();
        if (pairs.isEmpty()) {
            call("report", one("firm"));
            return;
        }
        int[] pair = pairs.get(random.nextInt(pairs.size()));
        call("claim", pair[0], pair[1], random.nextInt(4) == 0 ? random.nextInt(100) : 99, random.nextInt(101));
        int claim = (int) y.look(8) - 1;
        for (int what = 2; what < 4; what++) {
            call("claimOf", claim, what);
        }
        call("pay", claim);
        if (random.nextInt(3) == 0) {
            call("dies", random.nextBoolean() ? pair[0] : one("person"), (int) y.look(0));
        }
        for (int what = 3; what < 7; what++) {
            call("claimOf", one("claim"), what);
        }
        call("back", one("claim"));
        call("held", pair[1], 4 + random.nextInt(2));
    }

    private void law() throws Exception {
        String text = laws.next(600);
        call("end", 0);
        int[] n = new int[5];
        for (int from = 0; from < text.length(); from += 20) {
            for (int i = 0; i < 20; i++) {
                int sign = from + i < text.length() ? text.charAt(from + i) : 32;
                n[i / 4] = n[i / 4] << 8 | sign;
            }
            call("feed", n.clone());
        }
        call("end", text.length());
        done.add("text: " + text);
        compare("reads", SleepOffice.class.getMethod("reads", int.class),
            PlainOffice.class.getDeclaredMethod("reads", int.class), random.nextInt(20) == 0 ? 4 : random.nextInt(4));
        call("fault", 0);
        call("fault", 1);
    }

    private static int index(String name) {
        for (int i = 0; i < ours.size(); i++) {
            if (ours.get(i).getName().equals(name)) {
                return i;
            }
        }
        throw new IllegalArgumentException(name);
    }

    private void call(String name, int... args) throws Exception {
        int i = index(name);
        compare(name, ours.get(i), plain.get(i), args);
    }

    private void compare(String name, Method our, Method their, int... args) throws Exception {
        left--;
        Integer[] boxed = Arrays.stream(args).boxed().toArray(Integer[]::new);
        long got = number(our.invoke(x, (Object[]) boxed));
        long want = number(their.invoke(y, (Object[]) boxed));
        String call = name + Arrays.toString(args);
        done.add(call + " = " + got);
        c.due(call, got, want);
    }

    private static long number(Object answer) {
        return answer instanceof Boolean b ? b ? 1 : 0 : ((Number) answer).longValue();
    }

    private int[] draw(String[] kind) {
        int[] args = new int[kind.length];
        for (int i = 0; i < args.length; i++) {
            args[i] = random.nextInt(120) == 0 ? wild() : one(kind[i]);
        }
        return args;
    }

    private int wild() {
        int[] some = {-2147483648, -10000000, -2, -1, 0, 8, 24, 40, 60, 100, 101, 10000, 20000, 1000000, 2147483647};
        return some[random.nextInt(some.length)];
    }

    private int among(long count) {
        return random.nextInt(40) == 0 ? (int) count : random.nextInt((int) Math.max(1, count));
    }

    private int day() {
        int now = (int) y.look(0);
        return switch (random.nextInt(12)) {
            case 0 -> now;
            case 1 -> now + 1;
            case 2 -> Math.max(0, now - 1);
            case 3 -> random.nextInt(5);
            default -> random.nextInt(now + 1);
        };
    }

    private int one(String kind) {
        int now = (int) y.look(0);
        return switch (kind) {
            case "step" -> random.nextInt(10) == 0 ? random.nextInt(3000) : random.nextInt(200);
            case "state" -> among(4);
            case "home" -> random.nextInt(3) == 0 ? -1 : among(4);
            case "firm" -> among(y.look(1));
            case "person" -> among(y.look(2));
            case "parent" -> random.nextInt(5) == 0 ? -1 : Math.min(among(y.look(2)), among(y.look(2)));
            case "account" -> among(y.look(3));
            case "claim" -> among(y.look(8));
            case "anyday" -> random.nextInt(3) == 0 ? random.nextInt(20000) : day();
            case "day", "known" -> day();
            case "day0" -> random.nextBoolean() ? -1 : random.nextBoolean() ? random.nextInt(3) : day();
            case "late" -> random.nextBoolean() ? Math.max(0, now - random.nextInt(300)) : day();
            case "name" -> random.nextInt(3);
            case "mark" -> random.nextInt(3) - 1;
            case "kind" -> among(4);
            case "sort" -> among(6);
            case "amount" -> random.nextInt(8) == 0 ? random.nextInt(20000000) - 10000000 : random.nextInt(3000) - 700;
            case "nine" -> 1 + among(9);
            case "length" -> random.nextInt(30);
            case "set" -> set();
            case "hundred" -> random.nextInt(3) == 0 ? random.nextInt(102) : 99;
            case "year" -> among(20);
            case "value" -> random.nextInt(3) == 0 ? -1 : random.nextInt(random.nextBoolean() ? 4 : 1000000);
            case "cost" -> random.nextBoolean() ? 1 + random.nextInt(3) : random.nextInt(101);
            case "what60" -> random.nextInt(62);
            case "k" -> random.nextInt(22);
            case "purse" -> random.nextBoolean() ? random.nextInt(20) : random.nextInt(1001);
            case "any" -> random.nextInt();
            default -> among(Integer.parseInt(kind.substring(4)));
        };
    }

    private int set() {
        int set = 0;
        for (int i = random.nextInt(9); i >= 0; i--) {
            set |= 1 << Math.min(30, among(y.look(2)));
        }
        return set;
    }
}
