import java.lang.reflect.InvocationTargetException;
import java.lang.reflect.Method;
import java.util.ArrayList;
import java.util.HashMap;
import java.util.List;
import java.util.Map;

/** One object and what it is asked: calls written as "cost 0 1 0 -> 12", an exception as "-> throws.Name". */
final class Told {
    /** What an object is good for. */
    private static final int MOST_CALLS = 512;
    private static final Map<String, Method> METHODS = methods();
    /** Told ahead of a TEXT with a FAULT: something of all that must stay. */
    private static final String ALL_THAT_STAYS = "plain 5 2;owner o 3 4;strip o 2 0 3 1;glyph a 7;glyph b 73;glyph c 64;"
        + "word ab 10;word ba 5;hill h all;hill l low;link h l 3;wash r 3;sign s r;sign t r r;purse 30;seed 5;rain 60;"
        + "law eat stacks;";

    private static int wrong = 0;
    private static int asked = 0;
    private static int most = 0;
    private static String test = "";

    private final String name;
    private final HayWriting hay = new HayWriting();
    private final List<String> story = new ArrayList<>();

    Told(String name) {
        this.name = name;
    }

    /** A new object, in the test that was begun. */
    Told() {
        this(test);
    }

    private static Map<String, Method> methods() {
        Map<String, Method> found = new HashMap<>();
        for (Method method : HayWriting.class.getDeclaredMethods()) {
            found.put(method.getName() + " " + method.getParameterCount(), method);
        }
        return found;
    }

    static void begin(String name) {
        test = name;
    }

    static int asked() {
        return asked;
    }

    /** A new object with a TEXT that has no FAULT. */
    static Told text(String name, String text) {
        Told told = new Told(name + " '" + text + "'");
        told.feed(text);
        String lines = told.tell("text " + text.length());
        if (lines.startsWith("-")) {
            told.miss("text", "fault " + told.hay.fault(0) + " at " + told.hay.fault(1), "no fault");
        }
        return told;
    }

    static Told of(String text) {
        return text(test, text);
    }

    /** The FAULT of a TEXT and its place; but for it, and for the TAPE, all stays. */
    static void fault(String text, int kind, int place) {
        Told told = new Told(test + " FAULT of '" + text + "'");
        told.feed(text);
        told.ask("text " + text.length() + " -> -1", "fault 0 -> " + kind, "fault 1 -> " + place, "feed 0 0 0 0 0 -> 20");
        Told all = text(test + ", all stays", ALL_THAT_STAYS).ask("set 0 0 0 -> 6", "keep -> 0", "stack 8 9 -> true",
            "days 2 -> 2", "hang 1 -> 1", "note 0 0 1 -> 0", "note 1 1 2 -> 1", "known 1 -> true", "stack 9 27 -> true");
        HayWriting without = all.again();
        all.feed(text).ask("text " + text.length() + " -> -1");
        all.compare("text('" + text + "')", Probe.of(all.hay, false), Probe.of(without, false));
    }

    /** The same, with a ^ in the TEXT at the place. */
    static void fault(String marked, int kind) {
        int place = marked.indexOf('^');
        if (place < 0 || marked.indexOf('^', place + 1) >= 0) {
            throw new IllegalArgumentException("not one mark in " + marked);
        }
        fault(marked.replace("^", ""), kind, place);
    }

    /** Bytes behind the TAPE, with blanks up to a multiple of twenty. */
    Told feed(String text) {
        for (int i = 0; i < text.length(); i += 20) {
            int[] n = new int[5];
            for (int k = 0; k < 20; k++) {
                n[k / 4] = n[k / 4] << 8 | (i + k < text.length() ? text.charAt(i + k) : ' ');
            }
            tell("feed " + n[0] + " " + n[1] + " " + n[2] + " " + n[3] + " " + n[4]);
        }
        return this;
    }

    Told ask(String... calls) {
        for (String call : calls) {
            String[] sides = call.split(" -> ");
            check(sides[0], tell(sides[0]), sides[1].trim());
        }
        return this;
    }

    /** Asks calls that are refused, one by one: each must leave the object as one that was not asked. */
    Told refuse(String... calls) {
        for (String call : calls) {
            String[] sides = call.split(" -> ");
            HayWriting with = again();
            String got = answer(with, sides[0]);
            check(sides[0], got, sides[1].trim());
            compare(sides[0], Probe.of(with, true), Probe.of(again(), true));
        }
        return this;
    }

    void check(String call, String got, String due) {
        asked++;
        if (!got.equals(due)) {
            miss(call, got, due);
        }
    }

    private void compare(String call, String[] with, String[] without) {
        asked++;
        for (int i = 0; i < Math.max(with.length, without.length); i++) {
            String is = i < with.length ? with[i] : "nothing";
            String due = i < without.length ? without[i] : "nothing";
            if (!is.equals(due)) {
                miss(call + " changed something:", is, due);
                return;
            }
        }
    }

    /** Another object with the same story. */
    private HayWriting again() {
        HayWriting twin = new HayWriting();
        for (String call : story) {
            answer(twin, call);
        }
        return twin;
    }

    private String tell(String call) {
        story.add(call);
        most = Math.max(most, story.size());
        return answer(hay, call);
    }

    private void miss(String call, String got, String due) {
        wrong++;
        System.out.println(name + ": " + call + " answered " + got + ", due is " + due);
    }

    static String answer(HayWriting hay, String call) {
        String[] words = call.trim().split(" +");
        Method method = METHODS.get(words[0] + " " + (words.length - 1));
        if (method == null) {
            return "no such method";
        }
        Object[] arguments = new Object[words.length - 1];
        for (int i = 0; i < arguments.length; i++) {
            arguments[i] = number(words[i + 1]);
        }
        try {
            return String.valueOf(method.invoke(hay, arguments));
        } catch (InvocationTargetException thrown) {
            return "throws." + thrown.getCause().getClass().getSimpleName();
        } catch (IllegalAccessException never) {
            return "no access";
        }
    }

    private static int number(String word) {
        return word.equals("MIN") ? Integer.MIN_VALUE : word.equals("MAX") ? Integer.MAX_VALUE : Integer.parseInt(word);
    }

    /** Ends a test. */
    static void end(String name) {
        if (most + Probe.MOST_CALLS > MOST_CALLS) {
            wrong++;
            System.out.println(name + ": " + most + " calls of one object, and those to look at it");
        }
        System.out.println(name + ": " + asked + " answers, " + wrong + " wrong");
        if (wrong != 0) {
            System.exit(1);
        }
    }
}
