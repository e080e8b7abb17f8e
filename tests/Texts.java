import java.util.Random;

/** Random TEXTS of both languages, some of them spoiled. */
final class Texts {
    private static final String[] LAW_WORDS = {"length", "voices", "asker", "age", "thing", "waits", "day", "mood"};
    private static final String[] ORDER_WORDS = {"day", "prayers", "waiting", "done", "said ", "granted "};
    private static final String[] STRAY = {"rank", "breath", "bars", "if", "or", "and", "not", "(", ")", "[", "]", "<",
        ">", "=", "+", "-", "*", "/", "%", ";", "pray", "for", "of", "dawn", "times", "said", "granted", "x", "1001",
        "1000", "0", "21", "20", "8", "7", ",", "\n", "A", "\u00e9", "\u0000", "length", "day", "waiting"};

    private final Random random;
    private final boolean ordering;
    private final StringBuilder out = new StringBuilder();

    Texts(Random random, boolean ordering) {
        this.random = random;
        this.ordering = ordering;
    }

    String text() {
        switch (random.nextInt(30)) {
            case 0:
                crowd(";", ordering ? "dawn" : "bars", 11 + random.nextInt(3));
                break;
            case 1:
                out.append(ordering ? "pray 0 for 0 of " : "rank ");
                crowd("+", "1", (ordering ? 47 : 49) + random.nextInt(3));
                break;
            case 2:
                nest(7 + random.nextInt(3));
                break;
            default:
                clauses();
                break;
        }
        int spoil = random.nextInt(4) == 0 ? 1 + random.nextInt(2) : 0;
        for (int i = 0; i < spoil; i++) {
            spoil();
        }
        if (out.length() > 400) {
            out.setLength(400);
        }
        return out.toString();
    }

    private void crowd(String between, String what, int times) {
        for (int i = 0; i < times; i++) {
            out.append(i == 0 ? "" : between).append(what);
        }
    }

    private void nest(int deep) {
        int round = random.nextInt(deep + 1);
        out.append(ordering ? "dawn if " : "bars if ");
        out.append("(".repeat(round)).append("[".repeat(deep - round)).append("1").append("]".repeat(deep - round)).append("<2").append(")".repeat(round));
    }

    private void clauses() {
        int n = 1 + random.nextInt(random.nextInt(4) == 0 ? 6 : 3);
        for (int i = 0; i < n; i++) {
            out.append(i == 0 ? "" : random.nextBoolean() ? ";" : " ; ");
            clause();
        }
    }

    private void clause() {
        if (ordering) {
            if (random.nextBoolean()) {
                out.append("pray ");
                small(2);
                out.append(" for ");
                small(8);
                out.append(" of ");
                small(30);
            } else {
                out.append("dawn");
            }
            if (random.nextInt(3) == 0) {
                out.append(" times ").append(1 + random.nextInt(random.nextInt(3) == 0 ? 20 : 4));
            }
        } else {
            switch (random.nextInt(4)) {
                case 0:
                    out.append("bars");
                    break;
                case 1:
                    out.append("breath ");
                    small(90);
                    break;
                default:
                    out.append("rank ");
                    sum(2);
                    break;
            }
        }
        if (random.nextInt(5) < 2 || out.toString().endsWith("bars")) {
            out.append(" if ");
            test(2);
        }
    }

    /** A SUM that is often a number that can be. */
    private void small(int below) {
        if (random.nextInt(3) == 0) {
            sum(1);
        } else if (random.nextInt(4) == 0) {
            out.append("[");
            sum(1);
            out.append("] % ").append(below);
        } else {
            out.append(random.nextInt(below));
        }
    }

    private void sum(int deep) {
        part(deep);
        int more = random.nextInt(3);
        for (int i = 0; i < more; i++) {
            out.append(" +-*/%".charAt(1 + random.nextInt(5)));
            part(deep);
        }
    }

    private void part(int deep) {
        int kind = random.nextInt(10);
        if (kind < 2 && deep > 0) {
            out.append("[");
            sum(deep - 1);
            out.append("]");
        } else if (kind < 6) {
            String word = ordering ? ORDER_WORDS[random.nextInt(6)] : LAW_WORDS[random.nextInt(8)];
            out.append(word);
            if (word.endsWith(" ")) {
                out.append(random.nextInt(8));
            }
        } else {
            out.append(random.nextInt(6) == 0 ? 1000 : random.nextInt(3) == 0 ? 0 : random.nextInt(40));
        }
    }

    private void test(int deep) {
        int n = 1 + random.nextInt(3);
        for (int i = 0; i < n; i++) {
            out.append(i == 0 ? "" : random.nextBoolean() ? " or " : " and ");
            if (random.nextInt(4) == 0) {
                out.append("not ");
            }
            if (random.nextInt(4) == 0 && deep > 0) {
                out.append("(");
                test(deep - 1);
                out.append(")");
            } else {
                sum(1);
                out.append("<>=".charAt(random.nextInt(3)));
                sum(1);
            }
        }
    }

    private void spoil() {
        int place = random.nextInt(out.length() + 1);
        switch (random.nextInt(4)) {
            case 0:
                out.setLength(place);
                break;
            case 1:
                out.delete(place, Math.min(out.length(), place + 1 + random.nextInt(3)));
                break;
            default:
                out.insert(place, (random.nextBoolean() ? " " : "") + STRAY[random.nextInt(STRAY.length)]
                    + (random.nextBoolean() ? " " : ""));
                break;
        }
    }
}
