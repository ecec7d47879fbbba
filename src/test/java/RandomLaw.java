import java.util.Random;

/** Texts of laws: most of them right, some with a fault somewhere. */
final class RandomLaw {
    private static final String ODD = "abzAZ019;+-*/()<=> \n\t,&\u0000\u00e9";
    private static final String[] WORDS = {"sleep", "act", "letter", "fee", "interest", "proof", "when", "sum",
        "years", "kind", "heirs", "or", "and", "not", ";", "+", "-", "*", "/", "(", ")", "<", "=", ">", "0", "7"};

    private final Random random;
    private final StringBuilder text = new StringBuilder();

    RandomLaw(Random random) {
        this.random = random;
    }

    String next(int most) {
        text.setLength(0);
        int lines = random.nextInt(8) == 0 ? 20 + random.nextInt(8) : random.nextInt(8);
        for (int i = 0; i < lines; i++) {
            line(lines > 12);
        }
        int spoils = random.nextInt(3) == 0 ? 1 + random.nextInt(2) : 0;
        for (int i = 0; i < spoils; i++) {
            spoil();
        }
        text.setLength(Math.min(most, text.length()));
        return text.toString();
    }

    private void line(boolean small) {
        switch (random.nextInt(small ? 4 : 8)) {
            case 0 -> put("sleep " + number(3) + " " + number(random.nextInt(4) == 0 ? 40 : 6));
            case 1 -> put("act " + number(5));
            case 2 -> put("letter " + number(999));
            case 3 -> put("fee " + number(100));
            case 4 -> put("interest " + number(200) + " " + number(40));
            default -> proof();
        }
        put(";");
    }

    private void proof() {
        put("proof");
        terms(0);
        if (random.nextBoolean()) {
            put("when");
            test(0);
            while (random.nextInt(3) == 0) {
                put(random.nextBoolean() ? "and" : "or");
                test(0);
            }
        }
    }

    private void test(int depth) {
        if (depth < 12 && random.nextInt(depth > 0 ? 2 : 4) == 0) {
            put("not");
            test(depth + 1);
            return;
        }
        terms(2);
        put(new String[] {"<", "=", ">"}[random.nextInt(3)]);
        terms(2);
    }

    private void terms(int depth) {
        factors(depth);
        while (random.nextInt(depth < 2 ? 3 : 6) == 0) {
            put(random.nextBoolean() ? "+" : "-");
            factors(depth + 1);
        }
    }

    private void factors(int depth) {
        unit(depth);
        while (random.nextInt(depth < 2 ? 3 : 6) == 0) {
            if (random.nextBoolean()) {
                put("*");
                unit(depth + 1);
            } else {
                put("/");
                put(random.nextInt(30) == 0 ? "0" : "" + (1 + random.nextInt(random.nextBoolean() ? 9 : 99999)));
            }
        }
    }

    private void unit(int depth) {
        int sort = random.nextInt(12);
        if (sort < 5) {
            put("" + random.nextInt(random.nextInt(4) == 0 ? 100000 : 20));
        } else if (sort < 10 || depth > 12) {
            put(new String[] {"sum", "years", "kind", "heirs"}[random.nextInt(4)]);
        } else {
            int open = random.nextInt(12) == 0 ? 1 + random.nextInt(9) : 1;
            put("(".repeat(open));
            terms(depth + open);
            put(")".repeat(open));
        }
    }

    private String number(int greatest) {
        return "" + (random.nextInt(60) == 0 ? greatest + 1 : random.nextInt(greatest + 1));
    }

    private void put(String token) {
        boolean apart = text.length() > 0 && Character.isLetterOrDigit(text.charAt(text.length() - 1))
            && Character.isLetterOrDigit(token.charAt(0));
        if (apart || random.nextInt(10) == 0) {
            text.append(random.nextInt(8) == 0 ? '\n' : ' ');
        }
        text.append(token);
    }

    private void spoil() {
        int at = random.nextInt(text.length() + 1);
        switch (random.nextInt(4)) {
            case 0 -> text.insert(at, ODD.charAt(random.nextInt(ODD.length())));
            case 1 -> text.insert(at, " " + WORDS[random.nextInt(WORDS.length)] + " ");
            case 2 -> text.setLength(at);
            default -> {
                if (at < text.length()) {
                    text.deleteCharAt(at);
                }
            }
        }
    }
}
