import java.util.ArrayList;
import java.util.List;
import java.util.Random;

/** Makes TEXTS at random, some of them with FAULTS. */
final class Texts {
    private static final String[] OPERATORS = {"+", "-", "*", "/", "<", "<=", "=", "<>", ">=", ">", " and ", " or "};
    private static final String[] NAMES = {"stacks", "vowel", "row", "col", "day", "left"};
    private static final String[] ODD = {";", "all", "not", "(", ")", "<", "=", ">", "<>", "zzzzzz", "sevenli", "0",
        "99999999999999", "#", "A", "\t", "owner", "plain", "or", "eat", "+", "a", "b", "007", "law"};

    private final Random random;
    // Most TEXTS shall have no FAULT, or little would be seen of what comes behind them.
    private final boolean careful;
    private int wide = 4;
    private int high = 3;
    private final List<String> owners = new ArrayList<>();
    private final List<String> hills = new ArrayList<>();
    private final List<String> colours = new ArrayList<>();
    private final List<String> signs = new ArrayList<>();
    private final List<String> lines = new ArrayList<>();

    Texts(Random random) {
        this.random = random;
        careful = below(4) > 0;
    }

    private int below(int n) {
        return random.nextInt(n);
    }

    private boolean rarely() {
        return !careful && below(40) == 0;
    }

    private String pick(List<String> names) {
        return names.isEmpty() || rarely() ? "q" : names.get(below(names.size()));
    }

    private int number(int low, int high) {
        if (rarely()) {
            return below(2) == 0 ? high + 1 : Math.max(0, low - 1);
        }
        return low + below(high - low + 1);
    }

    private String fresh(List<String> names, int most) {
        String name = letters(most);
        for (int i = 0; careful && i < 100 && names.contains(name); i++) {
            name = letters(most);
        }
        names.add(name);
        return name;
    }

    private String letters(int most) {
        StringBuilder s = new StringBuilder();
        int length = 1 + below(most);
        for (int i = 0; i < length; i++) {
            s.append((char) ('a' + below(below(3) == 0 ? 6 : 3)));
        }
        return s.toString();
    }

    /** A whole TEXT of at most 700 signs. */
    String make() {
        if (below(3) > 0) {
            wide = number(1, 8);
            high = number(1, 6);
            lines.add("plain " + wide + " " + high);
            wide = Math.min(8, Math.max(1, wide));
            high = Math.min(6, Math.max(1, high));
        }
        for (int i = below(5); i > 0; i--) {
            String name = fresh(owners, 2);
            lines.add("owner " + name + " " + number(0, below(2) == 0 ? 99 : 5) + " " + number(1, below(2) == 0 ? 99 : 9));
        }
        for (int i = owners.isEmpty() ? 0 : below(5); i > 0; i--) {
            strip();
        }
        script();
        washing();
        orders();
        String text = written();
        return text.length() > 700 ? text.substring(0, 700) : text;
    }

    private void strip() {
        int x = number(0, wide - 1);
        int y = number(0, high - 1);
        int toX = Math.min(wide - 1, x) + below(Math.max(1, wide - x));
        int toY = Math.min(high - 1, y) + below(Math.max(1, high - y));
        lines.add("strip " + pick(owners) + " " + x + " " + y + " " + toX + " " + toY);
    }

    private void script() {
        int most = 1 + below(9);
        int mask = below(2) == 0 ? 511 : 0;
        List<Integer> shapes = new ArrayList<>();
        for (int i = 0; i < most; i++) {
            int shape = shape(mask);
            while (careful && shapes.contains(shape)) {
                shape = shape(511);
            }
            shapes.add(shape);
            lines.add("glyph " + (char) ('a' + (rarely() ? below(3) : i)) + " " + shape);
        }
        List<String> words = new ArrayList<>();
        for (int i = below(7); i > 0; i--) {
            lines.add("word " + fresh(words, below(3) == 0 ? 6 : 3) + " " + number(0, 99));
        }
        for (int i = below(4); i > 0; i--) {
            lines.add("hill " + fresh(hills, 2) + " " + (below(3) == 0 ? "all" : below(2) == 0 ? "low" : "high"));
        }
        List<String> pairs = new ArrayList<>();
        for (int i = hills.isEmpty() ? 0 : below(4); i > 0; i--) {
            String one = pick(hills);
            String other = pick(hills);
            if (careful && (one.equals(other) || pairs.contains(one + " " + other))) {
                continue;
            }
            pairs.add(one + " " + other);
            pairs.add(other + " " + one);
            lines.add("link " + one + " " + other + " " + number(1, 20));
        }
    }

    private int shape(int mask) {
        int shape = below(3) == 0 ? 1 << below(9) : 1 + below(511) & (mask | 73 | 1 << below(9));
        return Math.max(rarely() ? 0 : 1, shape);
    }

    private void washing() {
        for (int i = below(5); i > 0; i--) {
            lines.add("wash " + fresh(colours, 2) + " " + number(0, below(2) == 0 ? 9 : 3));
        }
        for (int i = colours.isEmpty() ? 0 : below(6); i > 0; i--) {
            StringBuilder s = new StringBuilder("sign " + fresh(signs, 3));
            for (int k = rarely() ? 5 : 1 + below(4); k > 0; k--) {
                s.append(' ').append(pick(colours));
            }
            lines.add(s.toString());
        }
    }

    private void orders() {
        if (below(2) == 0) {
            lines.add("purse " + number(0, below(2) == 0 ? 9999 : 60));
        }
        if (below(2) == 0) {
            lines.add("seed " + number(0, 99999));
        }
        if (below(2) == 0) {
            lines.add("rain " + number(0, 99));
        }
        if (below(2) == 0) {
            lines.add("law eat " + expression(below(careful ? 5 : 8), 0));
        }
        if (!careful && below(10) == 0) {
            lines.add("plain 2 2");
        }
    }

    /** E with about so many signs that join two. */
    String expression(int size, int depth) {
        if (size <= 0) {
            if (depth > 0 && below(8) == 0) {
                return "(" + expression(1, depth - 1) + ")";
            }
            String leaf = below(2) == 0 ? NAMES[below(6)] : "" + (below(6) == 0 ? number(0, 9999) : below(4));
            return below(12) == 0 ? "(" + leaf + ")" : leaf;
        }
        String left = expression(below(size), depth + 1);
        String right = expression(below(size), depth + 1);
        int sign = below(OPERATORS.length);
        if (careful && sign < 10) {
            left = "(" + left + ")";
            right = "(" + right + ")";
        }
        String joined = left + OPERATORS[sign] + right;
        int how = below(6);
        return how < 3 ? "(" + joined + ")" : how == 3 ? "not (" + joined + ")" : joined;
    }

    private String written() {
        if (!careful && below(4) == 0) {
            java.util.Collections.swap(lines, below(lines.size()), below(lines.size()));
        }
        StringBuilder s = new StringBuilder();
        for (String line : lines) {
            s.append(line).append(';');
            if (below(10) == 0) {
                s.append(below(2) == 0 ? "\n" : "  ");
            }
        }
        if (!careful && below(2) == 0) {
            String odd = ODD[below(ODD.length)];
            int at = below(s.length() + 1);
            s.insert(at, below(2) == 0 ? odd : " " + odd + " ");
        }
        if (!careful && below(4) == 0) {
            int at = below(s.length());
            s.delete(at, Math.min(s.length(), at + 1 + below(6)));
        }
        return s.toString();
    }
}
