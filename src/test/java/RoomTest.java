import com.sun.management.ThreadMXBean;
import java.lang.management.ManagementFactory;

/** That an object makes all its rows when it is made: no later call makes anything (look, if it throws, aside). */
public final class RoomTest {
    private static final int ROUNDS = 4;
    private static final String TEXT = "plain 4 2;owner o 3 2;strip o 2 0 3 1;glyph a 7;glyph b 73;word ab 10;word b 5;"
        + "hill h all;hill l low;link h l 3;wash r 3;sign s r;sign t r r;purse 30;seed 5;rain 60;law eat stacks*10-left;";

    private static long answers = 0;

    public static void main(String[] args) {
        ThreadMXBean threads = (ThreadMXBean) ManagementFactory.getThreadMXBean();
        int[] text = fours(TEXT);
        // What the machine itself makes when code is run for the first time is not the class's.
        useAll(new HayWriting(), text);
        threads.getCurrentThreadAllocatedBytes();
        HayWriting hay = new HayWriting();
        long before = threads.getCurrentThreadAllocatedBytes();
        useAll(hay, text);
        long made = threads.getCurrentThreadAllocatedBytes() - before;
        System.out.println("RoomTest: " + made + " bytes made by calls, answers " + (answers == 0 ? "none" : "had"));
        if (made != 0 || answers == 0) {
            System.exit(1);
        }
    }

    private static int[] fours(String text) {
        int[] found = new int[(text.length() + 19) / 20 * 5];
        for (int i = 0; i < found.length * 4; i++) {
            found[i / 4] = found[i / 4] << 8 | (i < text.length() ? text.charAt(i) : ' ');
        }
        return found;
    }

    private static void useAll(HayWriting hay, int[] text) {
        tell(hay, text, TEXT.length() - 1);
        tell(hay, text, TEXT.length());
        for (int round = 0; round < ROUNDS; round++) {
            change(hay, round);
            ask(hay);
            search(hay);
            guess(hay, round);
            goBack(hay);
        }
    }

    private static void tell(HayWriting hay, int[] text, int length) {
        for (int i = 0; i + 4 < text.length; i += 5) {
            answers += hay.feed(text[i], text[i + 1], text[i + 2], text[i + 3], text[i + 4]);
        }
        answers += hay.text(length) + hay.fault(0) + hay.fault(1) + hay.named(0, 15 << 25);
    }

    private static void change(HayWriting hay, int round) {
        answers += hay.keep() + hay.set(0, 0, 0) + (hay.stack(7, 73) ? 1 : 0) + hay.hang(0) + hay.hang(1) + hay.lower(0);
        answers += hay.undo() + hay.days(round == 3 ? 2 : 1);
    }

    private static void ask(HayWriting hay) {
        for (int what = 0; what < 5; what++) {
            answers += hay.look(7, what);
        }
        answers += hay.shape(1) + hay.seen(0, 1) + hay.read(1, 1) + hay.taken(1, 2) + hay.law(7) + hay.stands(0, 0);
        answers += hay.pieces(0) + hay.wants(3) + hay.meant(1, 0) + hay.apart() + hay.news(0, 1);
        for (int what = 0; what < 17; what++) {
            answers += hay.count(what);
        }
    }

    private static void search(HayWriting hay) {
        answers += hay.cost(0, 4, 0) + hay.cheapest(0, 1) + hay.crossed(0, 1, 2) + hay.life(0, 4, 0, 1) + hay.pays(0, 0);
        answers += hay.owed(0, 0) + hay.shared(0, 1, 5) + hay.summer(0, 3, 5, 2);
    }

    private static void guess(HayWriting hay, int round) {
        answers += hay.maybe(7, 3) + hay.maystand(4, 0, 3) + hay.likeliest(4, 0, 3);
        answers += hay.note(0, 0, 1) + hay.strike(round) + (hay.known(1) ? 1 : 0) + hay.tales() + hay.tale(0, 1);
        answers += hay.tried(0, 0, 9) + hay.tried(3, 0, 9);
    }

    private static void goBack(HayWriting hay) {
        answers += hay.back();
    }
}
