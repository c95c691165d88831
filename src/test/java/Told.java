import java.lang.reflect.InvocationTargetException;
import java.lang.reflect.Method;

/** One object and what it is asked: calls written as "cost 0 1 0 -> 12", an exception as "-> throws.Name". */
final class Told {
    private static int wrong = 0;
    private static int asked = 0;

    private final String name;
    private final HayWriting hay = new HayWriting();

    Told(String name) {
        this.name = name;
    }

    /** A new object with a TEXT that has no FAULT. */
    static Told text(String name, String text) {
        Told told = new Told(name);
        told.feed(text);
        if (told.hay.text(text.length()) < 0) {
            told.miss("text", "fault " + told.hay.fault(0) + " at " + told.hay.fault(1), "no fault");
        }
        return told;
    }

    /** The FAULT of a TEXT and its place. */
    static void fault(String text, int kind, int place) {
        Told told = new Told("FAULT of '" + text + "'");
        told.feed(text);
        told.ask("text " + text.length() + " -> -1", "fault 0 -> " + kind, "fault 1 -> " + place);
    }

    Told feed(String text) {
        for (int i = 0; i < text.length(); i += 20) {
            int[] n = new int[5];
            for (int k = 0; k < 20; k++) {
                n[k / 4] = n[k / 4] << 8 | (i + k < text.length() ? text.charAt(i + k) : ' ');
            }
            hay.feed(n[0], n[1], n[2], n[3], n[4]);
        }
        return this;
    }

    Told ask(String... calls) {
        for (String call : calls) {
            String[] sides = call.split(" -> ");
            asked++;
            String got = answer(sides[0].trim().split(" +"));
            if (!got.equals(sides[1].trim())) {
                miss(sides[0], got, sides[1]);
            }
        }
        return this;
    }

    private void miss(String call, String got, String due) {
        wrong++;
        System.out.println(name + ": " + call + " answered " + got + ", due is " + due);
    }

    private String answer(String[] call) {
        for (Method method : HayWriting.class.getMethods()) {
            if (method.getName().equals(call[0]) && method.getParameterCount() == call.length - 1
                && method.getDeclaringClass() == HayWriting.class) {
                Object[] arguments = new Object[call.length - 1];
                for (int i = 0; i < arguments.length; i++) {
                    arguments[i] = number(call[i + 1]);
                }
                try {
                    return String.valueOf(method.invoke(hay, arguments));
                } catch (InvocationTargetException thrown) {
                    return "throws." + thrown.getCause().getClass().getSimpleName();
                } catch (IllegalAccessException never) {
                    return "no access";
                }
            }
        }
        return "no such method";
    }

    private static int number(String word) {
        return word.equals("MIN") ? Integer.MIN_VALUE : word.equals("MAX") ? Integer.MAX_VALUE : Integer.parseInt(word);
    }

    /** Ends a test. */
    static void end(String test) {
        System.out.println(test + ": " + asked + " answers, " + wrong + " wrong");
        if (wrong != 0) {
            System.exit(1);
        }
    }
}
