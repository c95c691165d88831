import java.util.NoSuchElementException;
import java.util.Random;

/** Runs of calls at random, answered by the class and by the Model alike. */
public final class ComparedTest {
    private static final int CALLS = 500;
    private static long[] used = new long[42];

    private final Random random;
    private final HayWriting hay = new HayWriting();
    private final Model model = new Model();
    private final StringBuilder story = new StringBuilder();
    private int calls = 0;
    private boolean dear;

    private ComparedTest(long seed, boolean dear) {
        random = new Random(seed * 7919 + 17);
        random.nextLong();
        this.dear = dear;
    }

    public static void main(String[] args) {
        int runs = args.length > 0 ? Integer.parseInt(args[0]) : 1500;
        int first = args.length > 1 ? Integer.parseInt(args[1]) : 0;
        int wrong = 0;
        for (int seed = first; seed < first + runs && wrong < 5; seed++) {
            String fault = new ComparedTest(seed, seed % 10 == 0).run();
            if (fault != null) {
                wrong++;
                System.out.println("run " + seed + ": " + fault);
            }
        }
        for (int method = 0; method < used.length; method++) {
            if (runs >= 100 && used[method] == 0) {
                wrong++;
                System.out.println("method " + method + " never answered well");
            }
        }
        System.out.println(wrong == 0 ? "ComparedTest: all alike" : "ComparedTest: " + wrong + " wrong");
        if (wrong != 0) {
            System.exit(1);
        }
    }

    private int below(int n) {
        return random.nextInt(n);
    }

    /** A number that is mostly 0 .. n less 1. */
    private int about(int n) {
        int how = below(60);
        if (how == 0) {
            return -1 - below(2);
        }
        if (how == 1) {
            return n + below(3);
        }
        if (how == 2) {
            return below(2) == 0 ? Integer.MIN_VALUE : Integer.MAX_VALUE;
        }
        return n <= 0 ? 0 : below(n);
    }

    private String run() {
        String fault = null;
        while (calls < CALLS && fault == null) {
            if (calls == 0 && below(20) > 0 || below(120) == 0) {
                fault = tell();
            } else {
                fault = call(below(42), about(20));
            }
        }
        return fault == null ? null : fault + "\n" + story;
    }

    private String tell() {
        String text = new Texts(random).make();
        story.append("--- ").append(text.replace("\n", "\\n")).append('\n');
        for (int i = 0; i < text.length(); i += 20) {
            int[] n = new int[5];
            for (int k = 0; k < 20; k++) {
                n[k / 4] = n[k / 4] << 8 | (i + k < text.length() ? text.charAt(i + k) : below(256));
            }
            String fault = compare("feed", hay.feed(n[0], n[1], n[2], n[3], n[4]),
                model.feed(n[0], n[1], n[2], n[3], n[4]));
            if (fault != null) {
                return fault;
            }
        }
        int n = below(20) == 0 ? below(text.length() + 40) : text.length();
        String fault = told(1, "text " + n, hay.text(n), model.text(n));
        fault = fault != null ? fault : compare("fault 0", hay.fault(0), model.fault(0));
        return fault != null ? fault : compare("fault 1", hay.fault(1), model.fault(1));
    }

    private String compare(String call, long got, long due) {
        calls++;
        story.append(call).append(" -> ").append(got).append('\n');
        return got == due ? null : call + " answered " + got + ", due is " + due;
    }

    private int word() {
        return about(model.count(4));
    }

    private int hill() {
        return about(model.count(5));
    }

    private int field() {
        return about(model.count(0) * model.count(1));
    }

    private int way() {
        return about(2);
    }

    private String call(int method, int n) {
        if (method < 21) {
            return callFirst(method, n);
        }
        return callSecond(method, n);
    }

    private long look(int field, int what, boolean ofModel) {
        try {
            return ofModel ? model.look(field, what) : hay.look(field, what);
        } catch (IndexOutOfBoundsException e) {
            return -1000;
        } catch (NoSuchElementException e) {
            return -1001;
        }
    }

    private String told(int method, String call, long got, long due) {
        if (got >= 0) {
            used[method]++;
        }
        return compare(call, got, due);
    }

    private String callFirst(int m, int n) {
        int a;
        int b;
        int c;
        int d;
        switch (m) {
            case 0:
                if (below(8) > 0) {
                    return null;
                }
                a = random.nextInt();
                return told(m, "feed " + a, hay.feed(a, a, a, a, a), model.feed(a, a, a, a, a));
            case 1:
                if (below(30) > 0) {
                    return null;
                }
                a = about(40);
                return told(m, "text " + a, hay.text(a), model.text(a));
            case 2:
                a = about(2);
                return told(m, "fault " + a, hay.fault(a), model.fault(a));
            case 3:
                a = about(3);
                b = Model.packed(new Object() {
                    String name() {
                        return "" + (char) ('a' + below(3)) + (below(2) == 0 ? "" : (char) ('a' + below(3)));
                    }
                }.name());
                return told(m, "named " + a + " " + b, hay.named(a, b), model.named(a, b));
            case 4:
                a = field();
                b = about(5);
                return told(m, "look " + a + " " + b, look(a, b, false), look(a, b, true));
            case 5:
                a = about(27);
                return told(m, "shape " + a, hay.shape(a), model.shape(a));
            case 6:
                a = hill();
                b = field();
                return told(m, "seen " + a + " " + b, hay.seen(a, b), model.seen(a, b));
            case 7:
                a = hill();
                b = field();
                return told(m, "read " + a + " " + b, hay.read(a, b), model.read(a, b));
            case 8:
                a = hill();
                b = about(12);
                return told(m, "taken " + a + " " + b, hay.taken(a, b), model.taken(a, b));
            case 9:
                a = field();
                return told(m, "law " + a, hay.law(a), model.law(a));
            case 10:
                a = word();
                b = field();
                c = way();
                return told(m, "cost " + a + " " + b + " " + c, hay.cost(a, b, c), model.cost(a, b, c));
            case 11:
                a = word();
                b = field();
                c = way();
                return told(m, "set " + a + " " + b + " " + c, hay.set(a, b, c), model.set(a, b, c));
            case 12:
                a = field();
                b = below(3) == 0 ? model.shape(1 + below(6)) : about(512);
                return told(m, "stack " + a + " " + b, hay.stack(a, b) ? 1 : 0, model.stack(a, b) ? 1 : 0);
            case 13:
                a = below(3) == 0 ? about(below(3) == 0 ? 100 : 4) : below(2);
                return told(m, "days " + a, hay.days(a), model.days(a));
            case 14:
                a = word();
                b = hill();
                return told(m, "stands " + a + " " + b, hay.stands(a, b), model.stands(a, b));
            case 15:
                a = word();
                b = about(3);
                return told(m, "cheapest " + a + " " + b, hay.cheapest(a, b), model.cheapest(a, b));
            case 16:
                a = word();
                b = word();
                c = about(3);
                return told(m, "crossed " + a + " " + b + " " + c, hay.crossed(a, b, c), model.crossed(a, b, c));
            case 17:
                a = word();
                b = field();
                c = way();
                d = hill();
                return told(m, "life " + a + " " + b + " " + c + " " + d, hay.life(a, b, c, d),
                    model.life(a, b, c, d));
            case 18:
                if (!dear && below(10) > 0) {
                    return null;
                }
                a = hill();
                b = about(4);
                return told(m, "pays " + a + " " + b, hay.pays(a, b), model.pays(a, b));
            case 19:
                a = word();
                b = about(model.count(2));
                return told(m, "owed " + a + " " + b, hay.owed(a, b), model.owed(a, b));
            default:
                if (!dear && below(5) > 0) {
                    return null;
                }
                a = word();
                b = word();
                c = about(7);
                return told(m, "shared " + a + " " + b + " " + c, hay.shared(a, b, c), model.shared(a, b, c));
        }
    }

    private String callSecond(int m, int n) {
        int a;
        int b;
        int c;
        int d;
        switch (m) {
            case 21:
                if (!dear && below(10) > 0) {
                    return null;
                }
                a = hill();
                b = 1 + about((1 << model.count(4)) - 1);
                c = 1 + about(30);
                d = about(5);
                return told(m, "summer " + a + " " + b + " " + c + " " + d, hay.summer(a, b, c, d),
                    model.summer(a, b, c, d));
            case 22:
                a = about(model.count(14));
                return told(m, "hang " + a, hay.hang(a), model.hang(a));
            case 23:
                a = about(model.count(14));
                return told(m, "lower " + a, hay.lower(a), model.lower(a));
            case 24:
                a = about(model.count(13));
                return told(m, "pieces " + a, hay.pieces(a), model.pieces(a));
            case 25:
                a = about(1 << model.count(14));
                return told(m, "wants " + a, hay.wants(a), model.wants(a));
            case 26:
                a = about(5);
                b = about(a < 0 || a > 4 ? 5 : 1 << 2 * a);
                return told(m, "meant " + a + " " + b, hay.meant(a, b), model.meant(a, b));
            case 27:
                return told(m, "apart", hay.apart(), model.apart());
            case 28:
                a = word();
                b = hill();
                return told(m, "news " + a + " " + b, hay.news(a, b), model.news(a, b));
            case 29:
                a = field();
                b = about(10);
                return told(m, "maybe " + a + " " + b, hay.maybe(a, b), model.maybe(a, b));
            case 30:
                a = field();
                b = way();
                c = about(10);
                return told(m, "maystand " + a + " " + b + " " + c, hay.maystand(a, b, c), model.maystand(a, b, c));
            case 31:
                a = field();
                b = way();
                c = about(10);
                return told(m, "likeliest " + a + " " + b + " " + c, hay.likeliest(a, b, c),
                    model.likeliest(a, b, c));
            case 32:
                if (below(3) > 0) {
                    return null;
                }
                a = hill();
                b = field();
                c = below(2) == 0 ? 0 : about(below(2) == 0 ? 27 : 4);
                return told(m, "note " + a + " " + b + " " + c, hay.note(a, b, c), model.note(a, b, c));
            case 33:
                if (below(3) > 0) {
                    return null;
                }
                a = about(model.count(10));
                return told(m, "strike " + a, hay.strike(a), model.strike(a));
            case 34:
                a = -1 + about(model.count(10) + 2);
                return told(m, "known " + a, hay.known(a) ? 1 : 0, model.known(a) ? 1 : 0);
            case 35:
                return told(m, "tales", hay.tales(), model.tales());
            case 36:
                a = about(1 + model.tales());
                b = about(3);
                return told(m, "tale " + a + " " + b, hay.tale(a, b), model.tale(a, b));
            case 37:
                a = about(4);
                b = a == 3 || below(20) == 0 ? about(model.count(2)) : 0;
                c = about(below(2) == 0 ? 100 : 6);
                return told(m, "tried " + a + " " + b + " " + c, hay.tried(a, b, c), model.tried(a, b, c));
            case 38:
                return told(m, "undo", hay.undo(), model.undo());
            case 39:
                return told(m, "keep", hay.keep(), model.keep());
            case 40:
                return below(3) > 0 ? null : told(m, "back", hay.back(), model.back());
            default:
                return told(m, "count " + n, hay.count(n), model.count(n));
        }
    }
}
