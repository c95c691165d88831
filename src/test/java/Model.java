import java.math.BigInteger;
import java.util.ArrayList;
import java.util.Arrays;
import java.util.HashMap;
import java.util.LinkedHashMap;
import java.util.List;
import java.util.Map;
import java.util.NoSuchElementException;
import java.util.TreeMap;

/** The document told a second time, slowly and in another manner, to be compared with the class. */
final class Model {
    static final int NONE = -1;

    static final List<String> LANGUAGE = Arrays.asList("plain", "owner", "strip", "glyph", "word", "hill", "wash",
        "sign", "link", "purse", "seed", "rain", "law", "eat", "all", "low", "high", "or", "and", "not", "stacks",
        "vowel", "row", "col", "day", "left");

    /** A FAULT of a text. */
    static final class Wrong extends RuntimeException {
        private static final long serialVersionUID = 1;
        final int kind;
        final int place;

        Wrong(int kind, int place) {
            this.kind = kind;
            this.place = place;
        }
    }

    /** An ERROR of E. */
    static final class Error extends RuntimeException {
        private static final long serialVersionUID = 1;
    }

    interface Expression {
        BigInteger value(Map<String, Integer> names);
    }

    record Owner(String name, int price, int cut) { }

    record Glyph(int letter, int shape) { }

    record Word(String name, int worth) { }

    record Hill(String name, String sight) { }

    record Link(int one, int other, int days) { }

    record Cell(int x, int y) { }

    record Place(int field, int way) { }

    record Note(int hill, int field, int letter, int strikes) { }

    /** The TEXT. */
    static final class World {
        int wide = 4;
        int high = 3;
        int purse = 100;
        int seed = 0;
        int rain = 0;
        int strips = 0;
        int knots = 0;
        int lines = 0;
        Expression law = null;
        final Map<Cell, Integer> ownerOf = new HashMap<>();
        final List<Owner> owners = new ArrayList<>();
        final List<Glyph> glyphs = new ArrayList<>();
        final List<Word> words = new ArrayList<>();
        final List<Hill> hills = new ArrayList<>();
        final LinkedHashMap<String, Integer> colours = new LinkedHashMap<>();
        final LinkedHashMap<String, List<Integer>> signs = new LinkedHashMap<>();
        final List<Link> links = new ArrayList<>();
    }

    /** What changes. */
    static final class State {
        int day = 0;
        int purse;
        long number;
        TreeMap<Integer, Integer> stacks = new TreeMap<>();
        List<Integer> hung = new ArrayList<>();
        Map<String, Integer> readOn = new HashMap<>();

        State copy() {
            State other = new State();
            other.day = day;
            other.purse = purse;
            other.number = number;
            other.stacks = new TreeMap<>(stacks);
            other.hung = new ArrayList<>(hung);
            other.readOn = new HashMap<>(readOn);
            return other;
        }

        int shape(int field) {
            return stacks.getOrDefault(field, 0);
        }

        void put(int field, int shape) {
            if (shape == 0) {
                stacks.remove(field);
            } else {
                stacks.put(field, shape);
            }
        }
    }

    /** Reads a TEXT. */
    static final class Parser {
        final String text;
        int at = 0;
        World world = new World();
        final List<String> once = new ArrayList<>();
        int open = 0;

        Parser(String text) {
            this.text = text;
        }

        void blanks() {
            while (at < text.length() && (text.charAt(at) == 32 || text.charAt(at) == 10)) {
                at++;
            }
        }

        /** The token here, without going on; "" at the end, null if it is none. */
        String peek() {
            blanks();
            if (at >= text.length()) {
                return "";
            }
            String rest = text.substring(at);
            char c = rest.charAt(0);
            if (c >= 'a' && c <= 'z') {
                String w = rest.replaceFirst("(?s)[^a-z].*", "");
                return w.length() > 6 ? null : w;
            }
            if (c >= '0' && c <= '9') {
                return rest.replaceFirst("(?s)[^0-9].*", "");
            }
            for (String sign : List.of("<=", "<>", ">=", "<", ">", "=", "+", "-", "*", "/", "(", ")", ";")) {
                if (rest.startsWith(sign)) {
                    return sign;
                }
            }
            return null;
        }

        void skip() {
            at += peek().length();
        }

        boolean is(String token) {
            return token.equals(peek());
        }

        Wrong wrong(int kind) {
            blanks();
            return new Wrong(kind, at);
        }

        void expect(String token) {
            if (!is(token)) {
                throw wrong(1);
            }
            skip();
        }

        int number(int low, int high) {
            String token = peek();
            if (token == null || !token.matches("[0-9]+")) {
                throw wrong(1);
            }
            BigInteger n = new BigInteger(token);
            if (n.compareTo(BigInteger.valueOf(low)) < 0 || n.compareTo(BigInteger.valueOf(high)) > 0) {
                throw wrong(2);
            }
            skip();
            return n.intValue();
        }

        String name() {
            String token = peek();
            if (token == null || !token.matches("[a-z]+") || LANGUAGE.contains(token)) {
                throw wrong(1);
            }
            return token;
        }

        String fresh(Iterable<String> names) {
            String name = name();
            for (String other : names) {
                if (other.equals(name)) {
                    throw wrong(3);
                }
            }
            skip();
            return name;
        }

        int known(List<String> names) {
            String name = name();
            if (!names.contains(name)) {
                throw wrong(4);
            }
            skip();
            return names.indexOf(name);
        }

        void most(int many, int most) {
            if (many >= most) {
                throw wrong(2);
            }
            skip();
        }

        void once(String word) {
            if (once.contains(word)) {
                throw wrong(3);
            }
            once.add(word);
            if (word.equals("plain") && world.strips > 0) {
                throw wrong(4);
            }
            skip();
        }

        World parse() {
            while (!is("")) {
                line();
                expect(";");
                world.lines++;
            }
            return world;
        }

        void line() {
            String word = peek();
            if (word == null) {
                throw wrong(1);
            }
            switch (word) {
                case "plain" -> {
                    once(word);
                    world.wide = number(1, 8);
                    world.high = number(1, 6);
                }
                case "owner" -> {
                    most(world.owners.size(), 5);
                    String name = fresh(world.owners.stream().map(Owner::name).toList());
                    int price = number(0, 99);
                    world.owners.add(new Owner(name, price, number(1, 99)));
                }
                case "strip" -> strip();
                case "glyph" -> glyph();
                case "word" -> {
                    most(world.words.size(), 6);
                    String name = fresh(world.words.stream().map(Word::name).toList());
                    world.words.add(new Word(name, number(0, 99)));
                }
                case "hill" -> {
                    most(world.hills.size(), 3);
                    String name = fresh(world.hills.stream().map(Hill::name).toList());
                    if (!is("all") && !is("low") && !is("high")) {
                        throw wrong(1);
                    }
                    world.hills.add(new Hill(name, peek()));
                    skip();
                }
                case "wash" -> {
                    most(world.colours.size(), 4);
                    String name = fresh(world.colours.keySet());
                    world.colours.put(name, number(0, 9));
                }
                case "sign" -> sign();
                case "link" -> link();
                case "purse" -> {
                    once(word);
                    world.purse = number(0, 9999);
                }
                case "seed" -> {
                    once(word);
                    world.seed = number(0, 99999);
                }
                case "rain" -> {
                    once(word);
                    world.rain = number(0, 99);
                }
                case "law" -> {
                    once(word);
                    expect("eat");
                    world.law = either();
                }
                default -> throw wrong(1);
            }
        }

        void strip() {
            most(world.strips, 9);
            int owner = known(world.owners.stream().map(Owner::name).toList());
            int x = number(0, world.wide - 1);
            int y = number(0, world.high - 1);
            int toX = number(x, world.wide - 1);
            int toY = number(y, world.high - 1);
            for (int i = x; i <= toX; i++) {
                for (int j = y; j <= toY; j++) {
                    world.ownerOf.put(new Cell(i, j), owner);
                }
            }
            world.strips++;
        }

        void glyph() {
            most(world.glyphs.size(), 9);
            String name = name();
            if (name.length() > 1) {
                throw wrong(2);
            }
            int letter = name.charAt(0) - 'a' + 1;
            if (world.glyphs.stream().anyMatch(g -> g.letter() == letter)) {
                throw wrong(3);
            }
            skip();
            int before = at;
            int shape = number(1, 511);
            if (world.glyphs.stream().anyMatch(g -> g.shape() == shape)) {
                at = before;
                throw wrong(3);
            }
            world.glyphs.add(new Glyph(letter, shape));
        }

        void sign() {
            most(world.signs.size(), 5);
            String name = fresh(world.signs.keySet());
            List<Integer> row = new ArrayList<>();
            do {
                name();
                if (row.size() == 4) {
                    throw wrong(2);
                }
                row.add(known(new ArrayList<>(world.colours.keySet())));
            } while (peek() != null && peek().matches("[a-z]+") && !LANGUAGE.contains(peek()));
            world.signs.put(name, row);
        }

        void link() {
            most(world.links.size(), 3);
            List<String> names = world.hills.stream().map(Hill::name).toList();
            int one = known(names);
            int before = at;
            int other = known(names);
            int after = at;
            at = before;
            if (world.links.stream().anyMatch(l -> l.one() == one && l.other() == other
                || l.one() == other && l.other() == one)) {
                throw wrong(3);
            }
            if (one == other) {
                throw wrong(5);
            }
            at = after;
            world.links.add(new Link(one, other, number(1, 20)));
        }

        void knot() {
            if (world.knots == 64) {
                throw wrong(2);
            }
            world.knots++;
        }

        static BigInteger truth(boolean b) {
            return b ? BigInteger.ONE : BigInteger.ZERO;
        }

        static boolean isTrue(BigInteger b) {
            return b.signum() != 0;
        }

        Expression either() {
            Expression left = both();
            while (is("or")) {
                knot();
                skip();
                Expression a = left;
                Expression b = both();
                left = n -> {
                    BigInteger p = a.value(n);
                    BigInteger q = b.value(n);
                    return truth(isTrue(p) || isTrue(q));
                };
            }
            return left;
        }

        Expression both() {
            Expression left = negated();
            while (is("and")) {
                knot();
                skip();
                Expression a = left;
                Expression b = negated();
                left = n -> {
                    BigInteger p = a.value(n);
                    BigInteger q = b.value(n);
                    return truth(isTrue(p) && isTrue(q));
                };
            }
            return left;
        }

        Expression negated() {
            if (is("not")) {
                knot();
                skip();
                Expression a = negated();
                return n -> truth(!isTrue(a.value(n)));
            }
            return compared();
        }

        Expression compared() {
            Expression a = sum();
            String sign = peek();
            if (sign == null || !List.of("<", "<=", "=", "<>", ">=", ">").contains(sign)) {
                return a;
            }
            knot();
            skip();
            Expression b = sum();
            return n -> {
                int c = a.value(n).compareTo(b.value(n));
                return truth(switch (sign) {
                    case "<" -> c < 0;
                    case "<=" -> c <= 0;
                    case "=" -> c == 0;
                    case "<>" -> c != 0;
                    case ">=" -> c >= 0;
                    default -> c > 0;
                });
            };
        }

        static BigInteger checked(BigInteger value) {
            if (value.abs().compareTo(BigInteger.TEN.pow(12)) > 0) {
                throw new Error();
            }
            return value;
        }

        Expression sum() {
            Expression left = product();
            while (is("+") || is("-")) {
                boolean plus = is("+");
                knot();
                skip();
                Expression a = left;
                Expression b = product();
                left = n -> checked(plus ? a.value(n).add(b.value(n)) : a.value(n).subtract(b.value(n)));
            }
            return left;
        }

        Expression product() {
            Expression left = part();
            while (is("*") || is("/")) {
                boolean times = is("*");
                knot();
                skip();
                Expression a = left;
                Expression b = part();
                left = n -> {
                    BigInteger p = a.value(n);
                    BigInteger q = b.value(n);
                    if (!times && q.signum() == 0) {
                        throw new Error();
                    }
                    return checked(times ? p.multiply(q) : p.divide(q));
                };
            }
            return left;
        }

        Expression part() {
            String token = peek();
            if (token == null) {
                throw wrong(1);
            }
            if (token.equals("(")) {
                if (open == 8) {
                    throw wrong(2);
                }
                open++;
                skip();
                Expression inside = either();
                expect(")");
                open--;
                return inside;
            }
            if (token.matches("[0-9]+")) {
                int before = at;
                int n = number(0, 9999);
                int after = at;
                at = before;
                knot();
                at = after;
                return names -> BigInteger.valueOf(n);
            }
            if (List.of("stacks", "vowel", "row", "col", "day", "left").contains(token)) {
                knot();
                skip();
                return names -> BigInteger.valueOf(names.get(token));
            }
            throw wrong(1);
        }
    }

    private final List<Integer> tape = new ArrayList<>();
    private int faultKind = 0;
    private int faultPlace = NONE;
    private World world = new World();
    private State now = new State();
    private State image = null;
    private final List<State> undoable = new ArrayList<>();
    private final List<Note> notes = new ArrayList<>();
    private int knownBy = NONE;

    Model() {
        begin();
    }

    private void begin() {
        now = new State();
        now.purse = world.purse;
        now.number = world.seed;
        image = null;
        undoable.clear();
        notes.clear();
        knownBy = NONE;
    }

    int feed(int a, int b, int c, int d, int e) {
        if (tape.size() > 680) {
            return NONE;
        }
        for (int n : new int[] {a, b, c, d, e}) {
            for (byte x : java.nio.ByteBuffer.allocate(4).putInt(n).array()) {
                tape.add(x & 255);
            }
        }
        return tape.size();
    }

    int text(int n) {
        if (n < 0 || n > tape.size()) {
            return -2;
        }
        StringBuilder s = new StringBuilder();
        tape.subList(0, n).forEach(b -> s.append((char) (int) b));
        tape.clear();
        try {
            world = new Parser(s.toString()).parse();
        } catch (Wrong wrong) {
            faultKind = wrong.kind;
            faultPlace = wrong.place;
            return NONE;
        }
        faultKind = 0;
        faultPlace = NONE;
        begin();
        return world.lines;
    }

    int fault(int what) {
        return what == 0 ? faultKind : what == 1 ? faultPlace : NONE;
    }

    static int packed(String name) {
        int code = 0;
        for (int i = 0; i < 6; i++) {
            code = code * 32 + (i < name.length() ? name.charAt(i) - 'a' + 1 : 0);
        }
        return code;
    }

    int named(int what, int letters) {
        List<String> names = what == 0 ? world.owners.stream().map(Owner::name).toList()
            : what == 1 ? world.words.stream().map(Word::name).toList()
            : what == 2 ? world.hills.stream().map(Hill::name).toList() : List.of();
        for (int i = 0; i < names.size(); i++) {
            if (packed(names.get(i)) == letters) {
                return i;
            }
        }
        return NONE;
    }

    private int fields() {
        return world.wide * world.high;
    }

    private boolean in(int n, int many) {
        return n >= 0 && n < many;
    }

    private Integer owner(int field) {
        return world.ownerOf.get(new Cell(field % world.wide, field / world.wide));
    }

    private int price(int field) {
        return owner(field) == null ? 1 : world.owners.get(owner(field)).price();
    }

    private int left(int field, int day) {
        return owner(field) == null ? 99 : Math.max(0, world.owners.get(owner(field)).cut() - day);
    }

    int look(int field, int what) {
        if (!in(field, fields())) {
            throw new IndexOutOfBoundsException();
        }
        return switch (what) {
            case 0 -> now.shape(field);
            case 1 -> Integer.bitCount(now.shape(field));
            case 2 -> owner(field) == null ? NONE : owner(field);
            case 3 -> price(field);
            case 4 -> left(field, now.day);
            default -> throw new NoSuchElementException();
        };
    }

    private int glyphShape(int letter) {
        return world.glyphs.stream().filter(g -> g.letter() == letter).mapToInt(Glyph::shape).findFirst().orElse(0);
    }

    int shape(int letter) {
        return letter < 1 || letter > 26 ? NONE : glyphShape(letter);
    }

    private int visible(int hill, int shape) {
        boolean[][] there = new boolean[5][3];
        for (int bit = 0; bit < 9; bit++) {
            there[1 + bit / 3][bit % 3] = (shape >> bit) % 2 == 1;
        }
        int result = 0;
        for (int bit = 0; bit < 9; bit++) {
            int row = 1 + bit / 3;
            int col = bit % 3;
            boolean hidden = switch (world.hills.get(hill).sight()) {
                case "low" -> there[row + 1][col];
                case "high" -> there[row - 1][col];
                default -> false;
            };
            if (there[row][col] && !hidden) {
                result += 1 << bit;
            }
        }
        return result;
    }

    private int letter(int hill, int shape) {
        if (shape == 0) {
            return 0;
        }
        for (Glyph g : world.glyphs) {
            if (visible(hill, g.shape()) == visible(hill, shape)) {
                return g.letter();
            }
        }
        return 0;
    }

    int seen(int hill, int field) {
        return in(hill, world.hills.size()) && in(field, fields()) ? visible(hill, now.shape(field)) : NONE;
    }

    int read(int hill, int field) {
        return in(hill, world.hills.size()) && in(field, fields()) ? letter(hill, now.shape(field)) : NONE;
    }

    int taken(int hill, int letter) {
        return in(hill, world.hills.size()) && letter >= 1 && letter <= 26 ? letter(hill, glyphShape(letter)) : NONE;
    }

    private Long eatValue(State state, int field) {
        int shape = state.shape(field);
        boolean vowel = shape != 0 && world.glyphs.stream().anyMatch(
            g -> g.shape() == shape && "aeiou".indexOf('a' + g.letter() - 1) >= 0);
        Map<String, Integer> names = Map.of("stacks", Integer.bitCount(shape), "vowel", vowel ? 1 : 0,
            "row", field / world.wide, "col", field % world.wide, "day", state.day, "left", left(field, state.day));
        try {
            return world.law.value(names).longValueExact();
        } catch (Error error) {
            return null;
        }
    }

    long law(int field) {
        if (world.law == null || !in(field, fields())) {
            return Long.MIN_VALUE;
        }
        Long value = eatValue(now, field);
        return value == null ? Long.MIN_VALUE : value;
    }

    /** FIELDS of a WORD with the SHAPES it wants there; null if it doesn't fit or a LETTER has no GLYPH. */
    private LinkedHashMap<Integer, Integer> wanted(int word, Place place) {
        LinkedHashMap<Integer, Integer> result = new LinkedHashMap<>();
        int x = place.field() % world.wide;
        int y = place.field() / world.wide;
        for (char c : world.words.get(word).name().toCharArray()) {
            int shape = glyphShape(c - 'a' + 1);
            if (x >= world.wide || y >= world.high || shape == 0) {
                return null;
            }
            result.put(y * world.wide + x, shape);
            if (place.way() == 0) {
                x++;
            } else {
                y++;
            }
        }
        return result;
    }

    private List<Place> places() {
        List<Place> result = new ArrayList<>();
        for (int f = 0; f < fields(); f++) {
            result.add(new Place(f, 0));
            result.add(new Place(f, 1));
        }
        return result;
    }

    /** COST with an OWNER whose FIELDS are free (mode 1) or can't be used (mode 2); null if it can't be SET. */
    private Integer price(State state, int word, Place place, int mode, int owner) {
        Map<Integer, Integer> wanted = wanted(word, place);
        if (wanted == null) {
            return null;
        }
        int sum = 0;
        for (int f : wanted.keySet()) {
            boolean his = owner(f) != null && owner(f) == owner;
            int has = state.shape(f);
            if (has != 0 && has != wanted.get(f) || mode == 2 && his) {
                return null;
            }
            if (has == 0 && !(mode == 1 && his)) {
                sum += Integer.bitCount(wanted.get(f)) * price(f);
            }
        }
        return sum;
    }

    private Integer price(State state, int word, Place place) {
        return price(state, word, place, 0, 0);
    }

    private boolean isPlace(int word, int field, int way) {
        return in(word, world.words.size()) && in(field, fields()) && in(way, 2);
    }

    int cost(int word, int field, int way) {
        if (!isPlace(word, field, way)) {
            return NONE;
        }
        Integer price = price(now, word, new Place(field, way));
        return price == null ? -2 : price;
    }

    private void remember() {
        undoable.add(now.copy());
        if (undoable.size() > 20) {
            undoable.remove(0);
        }
    }

    int set(int word, int field, int way) {
        int price = cost(word, field, way);
        if (price < 0) {
            return price;
        }
        if (price > now.purse) {
            return -3;
        }
        remember();
        wanted(word, new Place(field, way)).forEach(now::put);
        now.purse -= price;
        return price;
    }

    boolean stack(int field, int shape) {
        if (!in(field, fields()) || !in(shape, 512) || now.shape(field) == shape) {
            return false;
        }
        remember();
        now.put(field, shape);
        return true;
    }

    private void pass(State state, boolean cut, boolean eat, boolean rain) {
        if (cut) {
            state.stacks.keySet().removeIf(f -> owner(f) != null && world.owners.get(owner(f)).cut() == state.day);
        }
        if (eat) {
            int best = NONE;
            long most = 0;
            for (int f : state.stacks.keySet()) {
                Long value = world.law == null ? Long.valueOf(1) : eatValue(state, f);
                if (value != null && value > most) {
                    best = f;
                    most = value;
                }
            }
            if (best != NONE) {
                state.put(best, state.shape(best) - Integer.lowestOneBit(state.shape(best)));
            }
        }
        if (rain && world.rain > 0 && draw(state) % 100 < world.rain) {
            int f = (int) (draw(state) % fields());
            state.put(f, state.shape(f) - Integer.highestOneBit(state.shape(f)));
        }
        state.day++;
    }

    private static long draw(State state) {
        state.number = (state.number * 1103515245L + 12345L) % (1L << 31);
        return state.number / 65536;
    }

    private boolean stands(State state, int word, Place place, int hill) {
        Map<Integer, Integer> wanted = wanted(word, place);
        if (wanted == null) {
            return false;
        }
        int k = 0;
        for (int f : wanted.keySet()) {
            if (letter(hill, state.shape(f)) != world.words.get(word).name().charAt(k++) - 'a' + 1) {
                return false;
            }
        }
        return true;
    }

    int days(int n) {
        if (!in(n, 100) || now.day + n > 999) {
            return NONE;
        }
        for (int i = 0; i < n; i++) {
            for (int w = 0; w < world.words.size(); w++) {
                for (int h = 0; h < world.hills.size(); h++) {
                    if (stands(w, h) > 0) {
                        now.readOn.putIfAbsent(w + " " + h, now.day);
                    }
                }
            }
            pass(now, true, true, true);
            undoable.clear();
        }
        return now.day;
    }

    int stands(int word, int hill) {
        if (!in(word, world.words.size()) || !in(hill, world.hills.size())) {
            return NONE;
        }
        return (int) places().stream().filter(p -> stands(now, word, p, hill)).count();
    }

    private Place cheapest(State state, int word, int mode, int owner) {
        Place best = null;
        for (Place p : places()) {
            Integer c = price(state, word, p, mode, owner);
            if (c != null && (best == null || c < price(state, word, best, mode, owner))) {
                best = p;
            }
        }
        return best;
    }

    int cheapest(int word, int what) {
        if (!in(word, world.words.size()) || !in(what, 3)) {
            return NONE;
        }
        Place p = cheapest(now, word, 0, 0);
        return p == null ? -2 : what == 0 ? price(now, word, p) : what == 1 ? p.field() : p.way();
    }

    /** COST, field, field, way, way; null if they can't be. */
    private int[] together(int one, int other, boolean crossing) {
        int[] best = null;
        for (Place p : places()) {
            for (Place q : places()) {
                if (crossing && (p.way() != 0 || q.way() != 1)) {
                    continue;
                }
                if (price(now, one, p) == null || price(now, other, q) == null) {
                    continue;
                }
                Map<Integer, Integer> all = new HashMap<>(wanted(one, p));
                boolean alike = true;
                int common = 0;
                for (Map.Entry<Integer, Integer> e : wanted(other, q).entrySet()) {
                    Integer before = all.put(e.getKey(), e.getValue());
                    if (before != null) {
                        common++;
                        alike &= before.equals(e.getValue());
                    }
                }
                if (!alike || crossing && common != 1) {
                    continue;
                }
                int sum = 0;
                for (int f : all.keySet()) {
                    sum += now.shape(f) == 0 ? Integer.bitCount(all.get(f)) * price(f) : 0;
                }
                if (best == null || sum < best[0]) {
                    best = new int[] {sum, p.field(), q.field(), p.way(), q.way()};
                }
            }
        }
        return best;
    }

    private boolean pair(int one, int other) {
        return one != other && in(one, world.words.size()) && in(other, world.words.size());
    }

    int crossed(int one, int other, int what) {
        if (!pair(one, other) || !in(what, 3)) {
            return NONE;
        }
        int[] found = together(one, other, true);
        return found == null ? -2 : found[what];
    }

    int life(int word, int field, int way, int hill) {
        if (!isPlace(word, field, way) || !in(hill, world.hills.size())) {
            return NONE;
        }
        if (cost(word, field, way) < 0) {
            return -2;
        }
        State state = now.copy();
        wanted(word, new Place(field, way)).forEach(state::put);
        for (int n = 0; n < 99; n++) {
            if (state.day > 999 || !stands(state, word, new Place(field, way), hill)) {
                return n;
            }
            pass(state, true, true, false);
        }
        return 99;
    }

    int pays(int hill, int what) {
        int[] best = null;
        if (in(hill, world.hills.size()) && in(what, 4)) {
            for (int w = 0; w < world.words.size(); w++) {
                for (Place p : places()) {
                    Integer c = price(now, w, p);
                    if (c == null || c > now.purse) {
                        continue;
                    }
                    int pay = world.words.get(w).worth() * life(w, p.field(), p.way(), hill) - c;
                    if (best == null || pay > best[0]) {
                        best = new int[] {pay, w, p.field(), p.way()};
                    }
                }
            }
        }
        return best == null ? Integer.MIN_VALUE : best[what];
    }

    int owed(int word, int owner) {
        if (!in(word, world.words.size()) || !in(owner, world.owners.size())) {
            return NONE;
        }
        Place with = cheapest(now, word, 1, owner);
        Place without = cheapest(now, word, 2, owner);
        if (without == null) {
            return with == null ? -3 : -2;
        }
        return price(now, word, without, 2, owner) - price(now, word, with, 1, owner);
    }

    int shared(int one, int other, int what) {
        if (!pair(one, other) || !in(what, 7)) {
            return NONE;
        }
        int[] found = together(one, other, false);
        if (found == null) {
            return -2;
        }
        if (what < 5) {
            return found[what];
        }
        int saved = cheapest(one, 0) + cheapest(other, 0) - found[0];
        return cheapest(what == 5 ? one : other, 0) - saved / 2;
    }

    private static void orders(List<Integer> rest, List<Integer> begun, List<List<Integer>> all) {
        if (rest.isEmpty()) {
            all.add(new ArrayList<>(begun));
        }
        for (Integer w : rest) {
            List<Integer> less = new ArrayList<>(rest);
            less.remove(w);
            begun.add(w);
            orders(less, begun, all);
            begun.remove(begun.size() - 1);
        }
    }

    int summer(int hill, int words, int n, int what) {
        if (!in(hill, world.hills.size()) || words <= 0 || words >> world.words.size() != 0
            || Integer.bitCount(words) > 4 || n < 1 || n > 30 || !in(what, 5)) {
            return NONE;
        }
        List<Integer> some = new ArrayList<>();
        for (int w = 0; w < world.words.size(); w++) {
            if ((words >> w) % 2 == 1) {
                some.add(w);
            }
        }
        if (what > some.size()) {
            return -2;
        }
        List<List<Integer>> all = new ArrayList<>();
        orders(some, new ArrayList<>(), all);
        int best = -1;
        List<Integer> bestOrder = null;
        for (List<Integer> order : all) {
            State state = now.copy();
            Map<Integer, Place> set = new HashMap<>();
            int sum = 0;
            for (int d = 0; d < n; d++) {
                if (d < order.size()) {
                    Place p = cheapest(state, order.get(d), 0, 0);
                    if (p != null) {
                        set.put(order.get(d), p);
                        wanted(order.get(d), p).forEach(state::put);
                    }
                }
                for (int w : set.keySet()) {
                    sum += stands(state, w, set.get(w), hill) ? world.words.get(w).worth() : 0;
                }
                pass(state, true, true, false);
            }
            if (sum > best) {
                best = sum;
                bestOrder = order;
            }
        }
        return what == 0 ? best : bestOrder.get(what - 1);
    }

    private List<List<Integer>> rows() {
        return new ArrayList<>(world.signs.values());
    }

    private int told(int colour) {
        return new ArrayList<>(world.colours.values()).get(colour);
    }

    int hang(int sign) {
        if (!in(sign, world.signs.size()) || now.hung.contains(sign)) {
            return NONE;
        }
        for (int c : rows().get(sign)) {
            if (rows().get(sign).stream().filter(x -> x == c).count() > pieces(c)) {
                return -2;
            }
        }
        remember();
        now.hung.add(sign);
        return now.hung.size();
    }

    int lower(int sign) {
        if (!now.hung.contains(sign)) {
            return NONE;
        }
        remember();
        now.hung.remove((Integer) sign);
        return now.hung.size();
    }

    int pieces(int colour) {
        if (!in(colour, world.colours.size())) {
            return NONE;
        }
        int left = told(colour);
        for (int s : now.hung) {
            left -= rows().get(s).stream().filter(x -> x == colour).count();
        }
        return left;
    }

    int wants(int signs) {
        if (!in(signs, 1 << world.signs.size())) {
            return NONE;
        }
        int more = 0;
        for (int c = 0; c < world.colours.size(); c++) {
            int need = 0;
            for (int s = 0; s < world.signs.size(); s++) {
                for (int x : rows().get(s)) {
                    need += (signs >> s) % 2 == 1 && x == c ? 1 : 0;
                }
            }
            more += Math.max(0, need - told(c));
        }
        return more;
    }

    private int meaning(List<Integer> begun) {
        int bits = 0;
        for (int s = 0; s < rows().size(); s++) {
            List<Integer> row = rows().get(s);
            if (row.size() >= begun.size() && row.subList(0, begun.size()).equals(begun)) {
                bits += 1 << s;
            }
        }
        return bits;
    }

    int meant(int n, int colours) {
        if (!in(n, 5) || !in(colours, (int) Math.pow(4, n))) {
            return NONE;
        }
        List<Integer> begun = new ArrayList<>();
        for (int i = 0; i < n; i++) {
            begun.add(colours / (int) Math.pow(4, i) % 4);
        }
        return begun.stream().anyMatch(c -> c >= world.colours.size()) ? NONE : meaning(begun);
    }

    int apart() {
        for (int k = 0; k <= 4; k++) {
            boolean fine = true;
            for (List<Integer> row : rows()) {
                fine &= Integer.bitCount(meaning(row.subList(0, Math.min(k, row.size())))) == 1;
            }
            if (fine) {
                return k;
            }
        }
        return -2;
    }

    /** The shortest way by trying all ways. */
    private int way(int from, int to, List<Integer> passed) {
        if (from == to) {
            return 0;
        }
        int best = 100000;
        for (Link l : world.links) {
            int next = l.one() == from ? l.other() : l.other() == from ? l.one() : NONE;
            if (next != NONE && !passed.contains(next)) {
                List<Integer> more = new ArrayList<>(passed);
                more.add(from);
                best = Math.min(best, l.days() + way(next, to, more));
            }
        }
        return best;
    }

    int news(int word, int hill) {
        if (!in(word, world.words.size()) || !in(hill, world.hills.size())) {
            return NONE;
        }
        int best = 100000;
        for (int h = 0; h < world.hills.size(); h++) {
            Integer day = now.readOn.get(word + " " + h);
            if (day == null && stands(word, h) > 0) {
                day = now.day;
            }
            if (day != null) {
                best = Math.min(best, day + way(h, hill, List.of()));
            }
        }
        return best >= 100000 ? -2 : best;
    }

    private boolean mayBe(int shape, int field, int n) {
        return shape != 0 && (shape | now.shape(field)) == shape
            && Integer.bitCount(shape) - Integer.bitCount(now.shape(field)) <= n;
    }

    int maybe(int field, int n) {
        if (!in(field, fields()) || !in(n, 10)) {
            return NONE;
        }
        int bits = 0;
        for (int g = 0; g < world.glyphs.size(); g++) {
            bits += mayBe(world.glyphs.get(g).shape(), field, n) ? 1 << g : 0;
        }
        return bits;
    }

    int maystand(int field, int way, int n) {
        if (!in(field, fields()) || !in(way, 2) || !in(n, 10)) {
            return NONE;
        }
        int bits = 0;
        for (int w = 0; w < world.words.size(); w++) {
            Map<Integer, Integer> wanted = wanted(w, new Place(field, way));
            if (wanted != null && wanted.keySet().stream().allMatch(f -> mayBe(wanted.get(f), f, n))) {
                bits += 1 << w;
            }
        }
        return bits;
    }

    int likeliest(int field, int way, int n) {
        int bits = maystand(field, way, n);
        if (bits <= 0) {
            return bits == 0 ? -2 : NONE;
        }
        int best = NONE;
        for (int w = world.words.size() - 1; w >= 0; w--) {
            if ((bits >> w) % 2 == 1 && (best < 0 || world.words.get(w).worth() >= world.words.get(best).worth())) {
                best = w;
            }
        }
        return best;
    }

    int note(int hill, int field, int letter) {
        if (!in(hill, world.hills.size()) || !in(field, fields()) || !in(letter, 27) || notes.size() == 24) {
            return NONE;
        }
        notes.add(new Note(hill, field, letter, NONE));
        return notes.size() - 1;
    }

    int strike(int note) {
        if (!in(note, notes.size()) || notes.size() == 24) {
            return NONE;
        }
        notes.add(new Note(NONE, NONE, NONE, note));
        return notes.size() - 1;
    }

    boolean known(int n) {
        if (n < -1 || n > notes.size()) {
            return false;
        }
        knownBy = n;
        return true;
    }

    private int knownMany() {
        return knownBy < 0 ? notes.size() : knownBy;
    }

    /** Whether a NOTE is STRUCK by a later one that isn't STRUCK itself. */
    private boolean struck(int note) {
        for (int i = note + 1; i < knownMany(); i++) {
            if (notes.get(i).strikes() == note && !struck(i)) {
                return true;
            }
        }
        return false;
    }

    private List<int[]> allTales() {
        List<int[]> result = new ArrayList<>();
        for (int w = 0; w < world.words.size(); w++) {
            for (Place p : places()) {
                Map<Integer, Integer> wanted = wanted(w, p);
                boolean fine = wanted != null;
                for (int i = 0; fine && i < knownMany(); i++) {
                    Note n = notes.get(i);
                    if (n.strikes() == NONE && !struck(i)) {
                        fine = letter(n.hill(), wanted.getOrDefault(n.field(), 0)) == n.letter();
                    }
                }
                if (fine) {
                    result.add(new int[] {w, p.field(), p.way()});
                }
            }
        }
        return result;
    }

    int tales() {
        return allTales().size();
    }

    int tale(int k, int what) {
        if (k < 0 || !in(what, 3)) {
            return NONE;
        }
        return k < allTales().size() ? allTales().get(k)[what] : -2;
    }

    int tried(int what, int i, int n) {
        if (!in(what, 4) || !in(n, 100) || (what == 3 ? !in(i, world.owners.size()) : i != 0)) {
            return NONE;
        }
        State state = now.copy();
        if (what == 3) {
            state.stacks.keySet().removeIf(f -> owner(f) != null && owner(f) == i);
        }
        for (int k = 0; k < n && state.day < 999; k++) {
            pass(state, what != 0, what != 1, what != 2);
        }
        return stacks(state);
    }

    private static int stacks(State state) {
        return state.stacks.values().stream().mapToInt(Integer::bitCount).sum();
    }

    int undo() {
        if (undoable.isEmpty()) {
            return NONE;
        }
        now = undoable.remove(undoable.size() - 1);
        return undoable.size();
    }

    int keep() {
        image = now.copy();
        return now.day;
    }

    int back() {
        if (image == null) {
            return NONE;
        }
        now = image.copy();
        undoable.clear();
        return now.day;
    }

    int count(int what) {
        return switch (what) {
            case 0 -> world.wide;
            case 1 -> world.high;
            case 2 -> world.owners.size();
            case 3 -> world.glyphs.size();
            case 4 -> world.words.size();
            case 5 -> world.hills.size();
            case 6 -> world.knots;
            case 7 -> now.day;
            case 8 -> now.purse;
            case 9 -> stacks(now);
            case 10 -> notes.size();
            case 11 -> knownMany();
            case 12 -> undoable.size();
            case 13 -> world.colours.size();
            case 14 -> world.signs.size();
            case 15 -> world.links.size();
            case 16 -> now.hung.stream().mapToInt(s -> 1 << s).sum();
            default -> NONE;
        };
    }
}
