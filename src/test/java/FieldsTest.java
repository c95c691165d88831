/** Promises 6 to 16: FIELDS, what is SEEN and READ, the law, WORDS SET, stacks, DAYS. */
public final class FieldsTest {
    private static final String PLAIN = "plain 4 2;owner o 3 2;strip o 2 0 3 1;glyph a 7;glyph b 73;glyph c 64;"
        + "word ab 10;word ba 5;word x 1;hill h all;hill l low;hill t high;purse 30;";
    private static final String ERROR = Long.toString(Long.MIN_VALUE);

    public static void main(String[] args) {
        look();
        letters();
        sights();
        law();
        words();
        stacks();
        days();
        rain();
        stands();
        Told.end("FieldsTest");
    }

    private static void look() {
        Told.text("look", PLAIN).ask("stack 2 73 -> true", "look 2 0 -> 73", "look 2 1 -> 3", "look 2 2 -> 0",
            "look 2 3 -> 3", "look 2 4 -> 2", "look 0 0 -> 0", "look 0 1 -> 0", "look 0 2 -> -1", "look 0 3 -> 1",
            "look 0 4 -> 99", "look 8 0 -> throws.IndexOutOfBoundsException",
            "look -1 0 -> throws.IndexOutOfBoundsException", "look MIN 9 -> throws.IndexOutOfBoundsException",
            "look 7 5 -> throws.NoSuchElementException", "look 7 -1 -> throws.NoSuchElementException",
            "look 7 0 -> 0", "days 1 -> 1", "look 2 4 -> 1", "days 1 -> 2", "look 2 4 -> 0", "days 9 -> 11",
            "look 2 4 -> 0", "look 0 4 -> 99");
        Told.text("a strip in place of another", "plain 3 1;owner a 2 9;owner b 5 4;strip a 0 0 2 0;strip b 1 0 1 0;")
            .ask("look 0 2 -> 0", "look 1 2 -> 1", "look 2 2 -> 0", "look 1 3 -> 5", "look 1 4 -> 4", "look 2 4 -> 9");
    }

    private static void letters() {
        Told.text("shape", "glyph z 511;glyph a 1;").ask("shape 26 -> 511", "shape 1 -> 1", "shape 2 -> 0",
            "shape 0 -> -1", "shape 27 -> -1", "shape MIN -> -1", "shape MAX -> -1");
    }

    private static void sights() {
        // 365 is 1, 3 of the upper row, 4, 6 of the middle one, 7, 9 of the lowest one: two whole columns.
        Told.text("seen", PLAIN).ask("stack 0 365 -> true", "seen 0 0 -> 365", "seen 1 0 -> 320", "seen 2 0 -> 5",
            "stack 0 65 -> true", "seen 1 0 -> 65", "seen 2 0 -> 65", "stack 0 9 -> true", "seen 1 0 -> 8",
            "seen 2 0 -> 1", "stack 0 511 -> true", "seen 1 0 -> 448", "seen 2 0 -> 7", "seen 0 1 -> 0",
            "seen 3 0 -> -1", "seen -1 0 -> -1", "seen 0 8 -> -1", "seen 0 -1 -> -1");
        Told.text("read", PLAIN).ask("read 0 0 -> 0", "read 1 0 -> 0", "stack 0 64 -> true", "read 0 0 -> 3",
            "read 1 0 -> 2", "read 2 0 -> 3", "stack 0 1 -> true", "read 0 0 -> 0", "read 2 0 -> 2",
            "stack 0 511 -> true", "read 2 0 -> 1", "read 0 0 -> 0", "read 1 0 -> 0", "read 3 0 -> -1",
            "read -1 0 -> -1", "read 0 8 -> -1", "read 0 -1 -> -1");
        Told.text("nine glyphs", "glyph a 1;glyph b 2;glyph c 3;glyph d 4;glyph e 5;glyph f 6;glyph g 7;glyph h 8;"
            + "glyph i 9;hill h all;").ask("stack 0 9 -> true", "read 0 0 -> 9", "stack 0 10 -> true", "read 0 0 -> 0");
        Told.text("taken", PLAIN).ask("taken 0 1 -> 1", "taken 1 3 -> 2", "taken 1 2 -> 2", "taken 0 3 -> 3",
            "taken 2 3 -> 3", "taken 2 1 -> 1", "taken 0 4 -> 0", "taken 0 0 -> -1", "taken 0 27 -> -1",
            "taken 3 1 -> -1", "taken -1 1 -> -1");
    }

    private static void value(String expression, long due) {
        Told.text("E " + expression, "law eat " + expression + ";").ask("law 0 -> " + due);
    }

    private static void law() {
        value("1 + 2 * 3", 7);
        value("(1 + 2) * 3", 9);
        value("5 - 3 - 1", 1);
        value("8 / 2 / 2", 2);
        value("8 / 2 * 2", 8);
        value("7 / 2", 3);
        value("(0 - 7) / 2", -3);
        value("2 * 3 - 4 * 5", -14);
        value("1 < 1", 0);
        value("1 <= 1", 1);
        value("1 = 1", 1);
        value("1 <> 1", 0);
        value("1 >= 1", 1);
        value("1 > 1", 0);
        value("1 < 2", 1);
        value("2 < 1", 0);
        value("2 <= 1", 0);
        value("2 <> 1", 1);
        value("1 >= 2", 0);
        value("2 > 1", 1);
        value("2>1", 1);
        value("1 + 1 = 2", 1);
        value("not 5", 0);
        value("not 0", 1);
        value("not not 5", 1);
        value("not 1 = 2", 1);
        value("not 0 and 0", 0);
        value("2 and 4", 1);
        value("2 and 0", 0);
        value("0 or 7", 1);
        value("0 or 0", 0);
        value("1 or 1 and 0", 1);
        value("(1 or 1) and 0", 0);
        value("9999 * 9999 * 9999", 999700029999L);
        value("1000 * 1000 * 1000 * 1000", 1000000000000L);
        value("0 - 1000 * 1000 * 1000 * 1000", -1000000000000L);
        value("1000 * 1000 * 1000 * 1000 + 1", Long.MIN_VALUE);
        value("0 - 1000 * 1000 * 1000 * 1000 - 1", Long.MIN_VALUE);
        value("9999 * 9999 * 9999 * 9999 * 9999 * 9999", Long.MIN_VALUE);
        value("(9999 * 9999 * 9999) * (0 - 9999 * 9999 * 9999)", Long.MIN_VALUE);
        value("0 * 9999 * 9999", 0);
        value("1 / 0", Long.MIN_VALUE);
        value("0 / 0", Long.MIN_VALUE);
        value("0 and 1 / 0", Long.MIN_VALUE);
        value("1 or 1 / 0", Long.MIN_VALUE);
        value("1 / 0 or 1", Long.MIN_VALUE);
        value("not (1 / 0)", Long.MIN_VALUE);
        value("(1000 * 1000 * 1000 * 1000 + 1) < 0", Long.MIN_VALUE);
        String names = "plain 3 2;owner o 1 7;strip o 1 1 2 1;glyph u 3;glyph b 5;glyph a 9;glyph e 10;glyph i 12;"
            + "glyph o 17;law eat ";
        Told.text("NAMES", names + "stacks * 1000 + row * 100 + col * 10 + vowel;").ask("stack 5 3 -> true",
            "law 5 -> 2121", "law 2 -> 20", "stack 2 5 -> true", "law 2 -> 2020", "stack 0 9 -> true", "law 0 -> 2001",
            "stack 0 10 -> true", "law 0 -> 2001", "stack 0 12 -> true", "law 0 -> 2001", "stack 0 17 -> true",
            "law 0 -> 2001", "stack 0 18 -> true", "law 0 -> 2000", "law 6 -> " + ERROR, "law -1 -> " + ERROR);
        Told.text("a plain of one column", "plain 1 6;law eat row * 10 + col;").ask("law 5 -> 50", "law 1 -> 10");
        Told.text("day and left", names + "day * 100 + left;").ask("law 0 -> 99", "law 4 -> 7", "days 3 -> 3",
            "law 0 -> 399", "law 4 -> 304", "days 4 -> 7", "law 4 -> 700", "days 4 -> 11", "law 4 -> 1100",
            "law 0 -> 1199");
        new Told("no law").ask("law 0 -> " + ERROR);
    }

    private static void words() {
        Told.text("cost", PLAIN).ask("cost 0 0 0 -> 6", "cost 0 1 0 -> 12", "cost 0 2 0 -> 18", "cost 0 3 0 -> -2",
            "cost 0 7 0 -> -2", "cost 0 0 1 -> 6", "cost 0 3 1 -> 18", "cost 0 4 1 -> -2", "cost 2 0 0 -> -2",
            "cost 3 0 0 -> -1", "cost -1 0 0 -> -1", "cost 0 8 0 -> -1", "cost 0 -1 0 -> -1", "cost 0 0 2 -> -1",
            "cost 0 0 -1 -> -1", "stack 1 73 -> true", "cost 0 0 0 -> 3", "cost 1 0 0 -> -2", "cost 1 1 0 -> 9",
            "stack 0 7 -> true", "cost 0 0 0 -> 0", "stack 0 3 -> true", "cost 0 0 0 -> -2");
        Told.text("set", PLAIN).ask("set 0 0 0 -> 6", "count 8 -> 24", "look 0 0 -> 7", "look 1 0 -> 73",
            "look 4 0 -> 0", "count 12 -> 1", "set 0 0 0 -> 0", "count 8 -> 24", "count 12 -> 2", "set 1 1 1 -> 3",
            "look 5 0 -> 7", "count 8 -> 21", "set 1 0 0 -> -2", "set 0 3 0 -> -2", "set 2 0 0 -> -2",
            "set 3 0 0 -> -1", "set 0 8 0 -> -1", "set 0 0 2 -> -1", "count 12 -> 3", "count 8 -> 21",
            "set 0 2 1 -> 18", "count 8 -> 3", "set 0 3 1 -> -3", "count 8 -> 3", "look 3 0 -> 0", "count 12 -> 4");
        Told.text("all that is in the purse", "glyph a 7;word a 1;purse 3;").ask("set 0 0 0 -> 3", "count 8 -> 0",
            "set 0 1 0 -> -3", "set 0 0 1 -> 0");
    }

    private static void stacks() {
        new Told("stack").ask("stack 0 0 -> false", "stack 0 511 -> true", "look 0 0 -> 511", "stack 0 511 -> false",
            "stack 0 512 -> false", "stack 0 -1 -> false", "stack 12 1 -> false", "stack -1 1 -> false",
            "stack 11 1 -> true", "count 9 -> 10", "stack 0 0 -> true", "count 9 -> 1", "count 8 -> 100",
            "count 12 -> 3");
    }

    private static void days() {
        new Told("days").ask("days 0 -> 0", "days 100 -> -1", "days -1 -> -1", "days MAX -> -1", "days 99 -> 99",
            "days 99 -> 198", "days 99 -> 297", "days 99 -> 396", "days 99 -> 495", "days 99 -> 594",
            "days 99 -> 693", "days 99 -> 792", "days 99 -> 891", "days 99 -> 990", "days 10 -> -1", "count 7 -> 990",
            "days 9 -> 999", "days 1 -> -1", "days 0 -> 999");
        Told.text("the first field is eaten without a law", "plain 2 2;").ask("stack 1 6 -> true", "stack 3 1 -> true",
            "days 1 -> 1", "look 1 0 -> 4", "days 1 -> 2", "look 1 0 -> 0", "look 3 0 -> 1", "days 1 -> 3",
            "count 9 -> 0", "days 1 -> 4");
        Told.text("what is cut is gone ahead of the sheep", "plain 3 1;owner o 1 1;strip o 0 0 0 0;").ask(
            "stack 0 511 -> true", "stack 1 7 -> true", "days 1 -> 1", "look 0 0 -> 510", "look 1 0 -> 7",
            "days 1 -> 2", "look 0 0 -> 0", "look 1 0 -> 6", "stack 0 1 -> true", "days 1 -> 3", "look 0 0 -> 0");
        Told.text("the greatest E, the first of several", "plain 4 1;law eat stacks;").ask("stack 0 1 -> true",
            "stack 1 7 -> true", "stack 2 56 -> true", "days 1 -> 1", "look 1 0 -> 6", "days 1 -> 2",
            "look 2 0 -> 48", "days 1 -> 3", "look 1 0 -> 4", "look 2 0 -> 48");
        Told.text("nothing at 0 or below", "plain 4 1;law eat col - 1;").ask("stack 0 1 -> true", "stack 1 1 -> true",
            "days 3 -> 3", "count 9 -> 2", "stack 2 1 -> true", "stack 3 3 -> true", "days 1 -> 4", "look 3 0 -> 2",
            "days 2 -> 6", "count 9 -> 2");
        Told.text("an ERROR is 0", "plain 4 1;law eat 6 / col;").ask("stack 0 7 -> true", "stack 2 1 -> true",
            "days 1 -> 1", "look 0 0 -> 7", "look 2 0 -> 0", "days 1 -> 2", "look 0 0 -> 7");
        Told.text("the law's day", "plain 2 1;law eat day = 1;").ask("stack 0 3 -> true", "days 1 -> 1",
            "look 0 0 -> 3", "days 1 -> 2", "look 0 0 -> 2", "days 5 -> 7", "look 0 0 -> 2");
        Told.text("the law after the cut", "plain 2 1;owner o 1 1;strip o 0 0 0 0;law eat left = 0;").ask(
            "days 1 -> 1", "stack 0 3 -> true", "days 1 -> 2", "look 0 0 -> 0", "stack 0 3 -> true", "days 1 -> 3",
            "look 0 0 -> 2", "stack 1 3 -> true", "days 1 -> 4", "look 0 0 -> 0", "look 1 0 -> 3");
    }

    private static void rain() {
        // From seed 5 on: 18655, 8457, 10616, 31877, 10193, 25964, 18104, 23667.
        Told wet = Told.text("rain", "seed 5;rain 60;law eat 0;");
        for (int field = 0; field < 12; field++) {
            wet.ask("stack " + field + " 7 -> true");
        }
        wet.ask("days 1 -> 1", "look 9 0 -> 3", "count 9 -> 35", "days 1 -> 2", "look 5 0 -> 3", "count 9 -> 34",
            "days 2 -> 4", "count 9 -> 34", "days 1 -> 5", "look 3 0 -> 3", "count 9 -> 33");
        Told.text("rain just as much as the number", "seed 5;rain 55;law eat 0;").ask("stack 9 1 -> true",
            "stack 5 257 -> true", "days 2 -> 2", "count 9 -> 3", "days 1 -> 3", "look 5 0 -> 1", "look 9 0 -> 1");
        // From seed 0 the first number is 0, the second one a multiple of twelve.
        Told.text("little rain", "rain 1;law eat 0;").ask("stack 0 257 -> true", "days 1 -> 1", "look 0 0 -> 1");
        Told.text("no rain", "law eat 0;").ask("stack 0 257 -> true", "days 1 -> 1", "look 0 0 -> 257");
        Told.text("rain on an empty field", "seed 5;rain 60;law eat 0;").ask("stack 5 3 -> true", "days 1 -> 1",
            "look 5 0 -> 3", "look 9 0 -> 0", "days 1 -> 2", "look 5 0 -> 1");
        Told.text("rain behind the sheep", "seed 5;rain 60;").ask("stack 9 448 -> true", "days 1 -> 1",
            "look 9 0 -> 128");
    }

    private static void stands() {
        Told.text("stands", PLAIN).ask("stands 0 0 -> 0", "set 0 0 0 -> 6", "stands 0 0 -> 1", "stands 0 1 -> 1",
            "stands 0 2 -> 1", "stands 1 0 -> 0", "stack 4 73 -> true", "stands 0 0 -> 2", "stack 4 64 -> true",
            "stands 0 0 -> 1", "stands 0 1 -> 2", "stands 2 0 -> 0", "stands 3 0 -> -1", "stands -1 0 -> -1",
            "stands 0 3 -> -1", "stands 0 -1 -> -1");
        Told.text("a word of one letter stands both ways", "plain 2 1;glyph a 1;word a 1;word aa 1;hill h all;").ask(
            "stack 1 1 -> true", "stands 0 0 -> 2", "stands 1 0 -> 0", "stack 0 1 -> true", "stands 1 0 -> 1");
        Told.text("no word goes round the edge", "plain 2 2;glyph a 1;word aa 1;hill h all;").ask("stack 1 1 -> true",
            "stack 2 1 -> true", "stands 0 0 -> 0");
    }
}
