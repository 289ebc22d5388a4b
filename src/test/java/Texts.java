import java.util.ArrayList;
import java.util.List;
import java.util.Random;

/** Draws TEXTS: whole ones, and ones with a TOKEN changed, left out or put in. */
final class Texts {
    private static final String[] ANY = {"frosts", "goes", "cow", "gate", "plant", "cut", "press", "go", "hour", "cell",
        "around", "all", "number", "who", "way", "turn", "by", "far", "of", "hedge", "if", "then", "else", "end", "or",
        "and", "not", "<", "<=", ">", ">=", "=", "#", "+", "-", "*", "/", "(", ")", ";", "0", "7", "24", "25", "40",
        "9999", "10000", "000012", "99999999999", "?", "x", "End", "\u00ff", "\t", "_"};
    private final Random random;
    private final List<String> tokens = new ArrayList<>();
    private boolean frosts;

    Texts(Random random) {
        this.random = random;
    }

    String text() {
        tokens.clear();
        boolean hadFrosts = false;
        boolean hadGoes = false;
        int clauses = random.nextInt(8) == 0 ? 26 : random.nextInt(9);
        for (int i = 0; i < clauses; i++) {
            int kind = random.nextInt(clauses > 12 ? 40 : 12);
            if (kind == 0 && (!hadFrosts || random.nextInt(20) == 0)) {
                hadFrosts = true;
                law("frosts");
            } else if (kind == 1 && (!hadGoes || random.nextInt(20) == 0)) {
                hadGoes = true;
                law("goes");
            } else {
                deed();
            }
        }
        for (int i = random.nextInt(3) == 0 ? 1 + random.nextInt(2) : 0; i > 0; i--) {
            change();
        }
        return joined();
    }

    private void add(String... more) {
        tokens.addAll(List.of(more));
    }

    private String upTo(int most) {
        return "" + random.nextInt(most + (random.nextInt(60) == 0 ? 2 : 1));
    }

    private void law(String kind) {
        frosts = kind.equals("frosts");
        add(kind);
        sum(random.nextInt(6) == 0 ? 9 : 3);
        add(";");
    }

    private void deed() {
        switch (random.nextInt(7)) {
            case 0:
                add("cow", upTo(24), "way", upTo(3), ";");
                break;
            case 1:
                add("gate", random.nextBoolean() ? upTo(4) : upTo(24), ";");
                break;
            case 2:
                add("plant", upTo(39), ";");
                break;
            case 3:
                add("cut", upTo(39), ";");
                break;
            case 4:
                add("press", upTo(3), "turn", upTo(7), ";");
                break;
            case 5:
                add("go", upTo(3), "by", upTo(4), ";");
                break;
            default:
                add("hour", "" + (1 + random.nextInt(random.nextInt(40) == 0 ? 61 : 9)), ";");
                break;
        }
    }

    private void sum(int deep) {
        product(deep);
        while (random.nextInt(3) == 0) {
            add(random.nextBoolean() ? "+" : "-");
            product(deep);
        }
    }

    private void product(int deep) {
        one(deep);
        while (random.nextInt(4) == 0) {
            add(random.nextBoolean() ? "*" : "/");
            one(deep);
        }
    }

    private void one(int deep) {
        int kind = random.nextInt(deep > 0 ? 12 : 5);
        switch (kind) {
            case 0:
            case 1:
                add(random.nextInt(8) == 0 ? upTo(9999) : upTo(40));
                break;
            case 2:
            case 3:
            case 4:
                String[] names = {"hour", "cell", "around", "all", frosts ? "number" : "who", frosts ? "number" : "way"};
                add(random.nextInt(150) == 0 ? "way" : names[random.nextInt(6)]);
                break;
            case 5:
            case 6:
                add("(");
                sum(deep - 1);
                add(")");
                break;
            case 7:
                add("-");
                one(deep - 1);
                break;
            case 8:
                add("far");
                one(deep - 1);
                add("of");
                one(deep - 1);
                break;
            case 9:
                add("hedge");
                one(deep - 1);
                break;
            default:
                add("if");
                either(deep - 1);
                add("then");
                sum(deep - 1);
                add("else");
                sum(deep - 1);
                add("end");
                break;
        }
    }

    private void either(int deep) {
        ask(deep);
        while (random.nextInt(3) == 0) {
            add(random.nextBoolean() ? "or" : "and");
            ask(deep);
        }
    }

    private void ask(int deep) {
        if (deep > 0 && random.nextInt(4) == 0) {
            add("not");
            ask(deep - 1);
            return;
        }
        sum(deep - 1);
        add(ANY[27 + random.nextInt(6)]);
        sum(deep - 1);
    }

    private void change() {
        int at = random.nextInt(tokens.size() + 1);
        int kind = random.nextInt(3);
        if (kind == 0 && at < tokens.size()) {
            tokens.remove(at);
        } else if (kind == 1 && at < tokens.size()) {
            tokens.set(at, ANY[random.nextInt(ANY.length)]);
        } else {
            tokens.add(at, ANY[random.nextInt(ANY.length)]);
        }
    }

    /** With blanks where they are needed, and some where they are not; what is beyond 300 is cut. */
    private String joined() {
        StringBuilder all = new StringBuilder();
        for (String token : tokens) {
            boolean words = all.length() > 0 && Character.isLetterOrDigit(all.charAt(all.length() - 1))
                    && Character.isLetterOrDigit(token.charAt(0));
            if (words && random.nextInt(200) > 0 || random.nextInt(12) == 0) {
                all.append(random.nextInt(3) == 0 ? "\n" : " ");
            }
            all.append(token);
        }
        return all.length() > 300 ? all.substring(0, 300) : all.toString();
    }
}
