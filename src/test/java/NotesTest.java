/** Promises 34 to 43: NOTES and TALES, what is TRIED, undone, kept, counted. */
public final class NotesTest {
    private static final String PLAIN = "plain 4 2;owner o 3 2;strip o 2 0 3 1;glyph a 7;glyph b 73;glyph c 64;"
        + "word ab 10;word ba 5;hill h all;hill l low;purse 30;";

    public static void main(String[] args) {
        notes();
        known();
        tales();
        tried();
        undo();
        images();
        counts();
        Told.end("NotesTest");
    }

    private static void notes() {
        Told.text("note", PLAIN).ask("note 0 0 0 -> 0", "note 1 7 26 -> 1", "note 2 0 0 -> -1", "note -1 0 0 -> -1",
            "note 0 8 0 -> -1", "note 0 -1 0 -> -1", "note 0 0 27 -> -1", "note 0 0 -1 -> -1", "count 10 -> 2",
            "strike 2 -> -1", "strike -1 -> -1", "strike 1 -> 2", "strike 2 -> 3", "strike 0 -> 4", "strike 0 -> 5",
            "count 10 -> 6");
        Told full = Told.text("24 of them", PLAIN);
        for (int i = 0; i < 23; i++) {
            full.ask("note 0 0 1 -> " + i);
        }
        full.ask("strike 22 -> 23", "note 0 0 1 -> -1", "strike 0 -> -1", "count 10 -> 24", "known 24 -> true",
            "known 25 -> false");
    }

    private static void known() {
        Told.text("known", PLAIN).ask("count 11 -> 0", "note 0 0 1 -> 0", "count 11 -> 1", "note 0 1 2 -> 1",
            "known 1 -> true", "count 11 -> 1", "note 0 1 2 -> 2", "count 11 -> 1", "known 4 -> false",
            "known -2 -> false", "count 11 -> 1", "known -1 -> true", "count 11 -> 3", "note 0 0 1 -> 3",
            "count 11 -> 4", "known 0 -> true", "count 11 -> 0");
        // A strike of a strike brings the note back, and what is known by fewer doesn't know of it.
        Told.text("strikes", PLAIN).ask("note 0 0 1 -> 0", "tales -> 2", "note 0 1 2 -> 1", "tales -> 1",
            "strike 1 -> 2", "tales -> 2", "strike 2 -> 3", "tales -> 1", "strike 3 -> 4", "tales -> 2",
            "known 4 -> true", "tales -> 1", "known 3 -> true", "tales -> 2", "known 2 -> true", "tales -> 1",
            "known 1 -> true", "tales -> 2", "known 0 -> true", "tales -> 20", "strike 0 -> 5", "tales -> 20",
            "known -1 -> true", "tales -> 20");
        Told.text("struck twice", PLAIN).ask("note 0 0 1 -> 0", "strike 0 -> 1", "strike 0 -> 2", "strike 1 -> 3",
            "tales -> 20", "strike 2 -> 4", "tales -> 2");
    }

    private static void tales() {
        Told.text("tales", PLAIN).ask("tales -> 20", "tale 0 0 -> 0", "tale 9 0 -> 0", "tale 10 0 -> 1",
            "tale 19 1 -> 6", "tale 19 2 -> 0", "tale 1 1 -> 0", "tale 1 2 -> 1", "tale 20 0 -> -2", "tale -1 0 -> -1",
            "tale 0 3 -> -1", "tale 0 -1 -> -1", "tale 99 3 -> -1", "note 0 1 0 -> 0", "tales -> 14",
            "tale 0 2 -> 1", "note 0 0 1 -> 1", "tales -> 1", "tale 0 0 -> 0", "tale 0 2 -> 1", "tale 1 0 -> -2",
            "note 0 0 2 -> 2", "tales -> 0", "tale 0 0 -> -2");
        Told.text("taken for another", "plain 2 1;glyph b 73;glyph c 64;word c 1;hill h all;hill l low;").ask(
            "stack 0 511 -> true", "tales -> 4", "note 1 0 2 -> 0", "tales -> 2", "note 0 0 3 -> 1", "tales -> 2",
            "note 0 1 0 -> 2", "tales -> 2", "note 1 0 3 -> 3", "tales -> 0");
        Told.text("no glyph", "glyph a 1;word x 1;word ax 1;hill h all;").ask("tales -> 0");
    }

    private static void tried() {
        Told.text("tried", PLAIN).ask("stack 0 64 -> true", "stack 2 7 -> true", "tried 0 0 3 -> 1", "tried 1 0 3 -> 1",
            "tried 1 0 2 -> 4", "tried 3 0 0 -> 1", "tried 3 0 1 -> 0", "tried 2 0 3 -> 0", "tried 2 0 2 -> 2",
            "tried 2 0 0 -> 4", "tried 4 0 0 -> -1", "tried -1 0 0 -> -1", "tried 0 1 0 -> -1", "tried 2 -1 0 -> -1",
            "tried 3 1 0 -> -1", "tried 3 -1 0 -> -1", "tried 0 0 100 -> -1", "tried 0 0 -1 -> -1", "count 9 -> 4",
            "count 7 -> 0");
        Told.text("an owner's fields from the first to the last", "plain 8 6;owner o 1 9;owner p 1 9;strip o 0 0 7 5;"
            + "strip p 1 1 1 1;").ask("stack 0 1 -> true", "stack 9 3 -> true", "stack 47 7 -> true", "tried 3 0 0 -> 2",
            "tried 3 1 0 -> 4", "tried 3 1 9 -> 0", "tried 3 2 0 -> -1");
        // From seed 5 on: 55 of a hundred, field 9 of twelve, 16, field 5.
        Told.text("tried with rain", "seed 5;rain 60;law eat 0;").ask("stack 9 3 -> true", "stack 5 3 -> true",
            "tried 2 0 9 -> 4", "tried 0 0 1 -> 3", "tried 1 0 2 -> 2", "tried 1 0 2 -> 2", "days 1 -> 1",
            "tried 1 0 1 -> 2", "count 9 -> 3");
        Told late = Told.text("no day behind 999", "plain 1 1;");
        for (int day = 99; day <= 990; day += 99) {
            late.ask("days 99 -> " + day);
        }
        late.ask("days 7 -> 997", "stack 0 511 -> true", "tried 0 0 1 -> 8", "tried 0 0 2 -> 7", "tried 0 0 3 -> 7",
            "tried 2 0 99 -> 7", "days 2 -> 999", "tried 0 0 5 -> 7", "tried 0 0 0 -> 7");
    }

    private static void undo() {
        Told.text("undo", PLAIN + "wash r 1;sign s r;").ask("undo -> -1", "set 0 0 0 -> 6", "set 0 0 0 -> 0",
            "hang 0 -> 1", "stack 0 0 -> true", "lower 0 -> 0", "count 12 -> 5", "undo -> 4", "count 16 -> 1",
            "undo -> 3", "look 0 0 -> 7", "undo -> 2", "count 16 -> 0", "undo -> 1", "count 8 -> 24", "undo -> 0",
            "count 8 -> 30", "count 9 -> 0", "undo -> -1");
        Told.text("what fails can't be undone", PLAIN).ask("set 0 3 0 -> -2", "stack 0 0 -> false", "hang 0 -> -1",
            "count 12 -> 0");
        Told.text("days end it", PLAIN).ask("stack 0 7 -> true", "days 0 -> 0", "count 12 -> 1", "days 100 -> -1",
            "count 12 -> 1", "days 1 -> 1", "count 12 -> 0", "undo -> -1", "look 0 0 -> 6", "stack 1 1 -> true",
            "undo -> 0", "look 0 0 -> 6");
        Told many = new Told("20 at most");
        for (int shape = 1; shape <= 23; shape++) {
            many.ask("stack 0 " + shape + " -> true", "count 12 -> " + Math.min(20, shape));
        }
        for (int left = 19; left >= 0; left--) {
            many.ask("undo -> " + left, "look 0 0 -> " + (left + 3));
        }
        many.ask("undo -> -1", "look 0 0 -> 3");
    }

    private static void images() {
        Told.text("keep and back", PLAIN + "wash r 1;sign s r;").ask("back -> -1", "set 0 0 0 -> 6", "days 1 -> 1",
            "hang 0 -> 1", "keep -> 1", "count 12 -> 1", "stack 7 5 -> true", "lower 0 -> 0", "set 0 4 0 -> 6",
            "days 3 -> 4", "note 0 0 1 -> 0", "back -> 1", "count 7 -> 1", "count 8 -> 24", "count 16 -> 1",
            "look 0 0 -> 6", "look 7 0 -> 0", "look 4 0 -> 0", "count 10 -> 1", "count 12 -> 0", "undo -> -1",
            "stack 0 1 -> true", "back -> 1", "count 12 -> 0", "look 0 0 -> 6", "days 2 -> 3", "keep -> 3",
            "days 1 -> 4", "back -> 3");
        Told.text("the rain is the same again", "seed 5;rain 60;law eat 0;").ask("stack 9 3 -> true",
            "stack 5 3 -> true", "keep -> 0", "days 1 -> 1", "count 9 -> 3", "look 9 0 -> 1", "days 1 -> 2",
            "count 9 -> 2", "back -> 0", "count 9 -> 4", "days 1 -> 1", "look 9 0 -> 1", "days 1 -> 2",
            "look 5 0 -> 1");
    }

    private static void counts() {
        Told.text("count", PLAIN + "wash r 1;wash g 2;sign s r;sign t g;sign u g r;link h l 2;law eat not stacks + 1;")
            .ask("count 0 -> 4", "count 1 -> 2", "count 2 -> 1", "count 3 -> 3", "count 4 -> 2", "count 5 -> 2",
                "count 6 -> 4", "count 7 -> 0", "count 8 -> 30", "count 9 -> 0", "count 10 -> 0", "count 11 -> 0",
                "count 12 -> 0", "count 13 -> 2", "count 14 -> 3", "count 15 -> 1", "count 16 -> 0", "count 17 -> -1",
                "count -1 -> -1", "count MIN -> -1", "hang 2 -> 1", "count 16 -> 4", "stack 1 511 -> true",
                "stack 7 3 -> true", "count 9 -> 11", "count 12 -> 3", "days 9 -> 9", "count 7 -> 9");
    }
}
