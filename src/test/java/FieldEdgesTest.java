import java.lang.reflect.InvocationTargetException;

/** Promises 6 to 16 and ==== 2 at their limits: FIELDS, SEEN and READ, the law, WORDS SET, stacks, DAYS. */
public final class FieldEdgesTest {
    private static final String IOOBE = " -> throws.IndexOutOfBoundsException";
    private static final String NSEE = " -> throws.NoSuchElementException";
    private static final String ERROR = Long.toString(Long.MIN_VALUE);
    /** 4 by 2, the right half an owner's; two words of two letters, one without a glyph; three hills. */
    private static final String PLAIN = "plain 4 2;owner o 3 2;strip o 2 0 3 1;glyph a 7;glyph b 73;glyph c 64;"
        + "word ab 10;word ba 5;word ax 1;hill h all;hill l low;hill t high;purse 30;";
    private static final String[] DAYS_TO_990 = {"days 99 -> 99", "days 99 -> 198", "days 99 -> 297", "days 99 -> 396",
        "days 99 -> 495", "days 99 -> 594", "days 99 -> 693", "days 99 -> 792", "days 99 -> 891", "days 99 -> 990"};

    public static void main(String[] args) throws InvocationTargetException, IllegalAccessException {
        Edges.run(FieldEdgesTest.class);
    }

    // Promise 6

    static void promise06NoSuchField() {
        Told.of(PLAIN).ask("look 0 0 -> 0", "look 7 0 -> 0").refuse("look -1 0" + IOOBE, "look 8 0" + IOOBE,
            "look 47 0" + IOOBE, "look MIN 0" + IOOBE, "look MAX 0" + IOOBE);
        Told.of("plain 8 6;").ask("look 47 0 -> 0").refuse("look 48 0" + IOOBE, "look -1 4" + IOOBE);
        Told.of("plain 1 1;").ask("look 0 0 -> 0").refuse("look 1 0" + IOOBE);
    }

    static void promise06NoSuchWhat() {
        Told.of(PLAIN).ask("look 7 0 -> 0", "look 7 4 -> 2").refuse("look 7 -1" + NSEE, "look 7 5" + NSEE,
            "look 0 MIN" + NSEE, "look 0 MAX" + NSEE);
        // With both wrong, the FIELD is asked first.
        Told.of(PLAIN).refuse("look 8 5" + IOOBE, "look -1 -1" + IOOBE);
    }

    static void promise06ShapeAndStacks() {
        Told.of(PLAIN).ask("look 0 0 -> 0", "look 0 1 -> 0", "stack 0 511 -> true", "look 0 0 -> 511", "look 0 1 -> 9",
            "stack 0 256 -> true", "look 0 0 -> 256", "look 0 1 -> 1", "stack 0 0 -> true", "look 0 0 -> 0",
            "look 0 1 -> 0");
    }

    static void promise06OwnerAndPrice() {
        Told.of("plain 6 1;owner a 0 1;owner b 99 1;owner c 2 1;owner d 3 1;owner e 4 1;strip a 0 0 0 0;strip b 1 0 1 0;"
            + "strip e 4 0 4 0;").ask("look 0 2 -> 0", "look 0 3 -> 0", "look 1 2 -> 1", "look 1 3 -> 99", "look 4 2 -> 4",
            "look 4 3 -> 4", "look 5 2 -> -1", "look 5 3 -> 1");
    }

    static void promise06LeftTillTheCut() {
        Told.of("plain 3 1;owner a 1 1;owner z 1 99;strip a 0 0 0 0;strip z 1 0 1 0;").ask("look 0 4 -> 1", "look 1 4 -> 99",
            "look 2 4 -> 99", "days 1 -> 1", "look 0 4 -> 0", "look 1 4 -> 98", "days 1 -> 2", "look 0 4 -> 0",
            "days 96 -> 98", "look 1 4 -> 1", "days 1 -> 99", "look 1 4 -> 0", "days 1 -> 100", "look 1 4 -> 0",
            "look 2 4 -> 99");
    }

    // Promise 7

    static void promise07LettersFrom1To26() {
        Told.of("glyph a 511;glyph z 1;").ask("shape 1 -> 511", "shape 26 -> 1", "shape 2 -> 0", "shape 25 -> 0").refuse(
            "shape 0 -> -1", "shape 27 -> -1", "shape 31 -> -1", "shape 32 -> -1", "shape -1 -> -1", "shape MIN -> -1",
            "shape MAX -> -1");
        Told.of("glyph a 1;").feed(" ").ask("text 1 -> 0", "shape 1 -> 0");
    }

    // Promise 8

    static void promise08NoSuchHillOrField() {
        Told.of(PLAIN).ask("seen 0 0 -> 0", "seen 2 7 -> 0").refuse("seen -1 0 -> -1", "seen 3 0 -> -1",
            "seen MIN 0 -> -1", "seen MAX 0 -> -1", "seen 0 -1 -> -1", "seen 0 8 -> -1", "seen 0 MIN -> -1",
            "seen 0 MAX -> -1");
        Told.of("hill h all;").ask("seen 0 11 -> 0").refuse("seen 1 0 -> -1", "seen 0 12 -> -1");
    }

    static void promise08SeenLowHasNoneRightBelow() {
        // Stacks with one right below, with one two below, side by side, on the lowest row.
        Told.of(PLAIN).ask("stack 0 9 -> true", "seen 0 0 -> 9", "seen 1 0 -> 8", "stack 0 65 -> true", "seen 1 0 -> 65",
            "stack 0 72 -> true", "seen 1 0 -> 64", "stack 0 73 -> true", "seen 1 0 -> 64", "stack 0 7 -> true",
            "seen 1 0 -> 7", "stack 0 448 -> true", "seen 1 0 -> 448", "stack 0 511 -> true", "seen 1 0 -> 448",
            "stack 0 12 -> true", "seen 1 0 -> 12", "stack 0 0 -> true", "seen 1 0 -> 0");
    }

    static void promise08SeenHighHasNoneRightAbove() {
        Told.of(PLAIN).ask("stack 0 9 -> true", "seen 2 0 -> 1", "stack 0 65 -> true", "seen 2 0 -> 65",
            "stack 0 72 -> true", "seen 2 0 -> 8", "stack 0 73 -> true", "seen 2 0 -> 1", "stack 0 7 -> true",
            "seen 2 0 -> 7", "stack 0 448 -> true", "seen 2 0 -> 448", "stack 0 511 -> true", "seen 2 0 -> 7",
            "stack 0 12 -> true", "seen 2 0 -> 12", "stack 0 0 -> true", "seen 2 0 -> 0");
    }

    // Promise 9

    static void promise09NoSuchHillOrField() {
        Told.of(PLAIN).ask("read 0 0 -> 0", "read 2 7 -> 0").refuse("read -1 0 -> -1", "read 3 0 -> -1",
            "read MIN 0 -> -1", "read MAX 0 -> -1", "read 0 -1 -> -1", "read 0 8 -> -1", "read 0 MIN -> -1",
            "read 0 MAX -> -1");
    }

    static void promise09NoneIfNothingIsSeenOrNoLetterIs() {
        Told.of(PLAIN).ask("read 0 0 -> 0", "read 1 0 -> 0", "read 2 0 -> 0", "stack 0 7 -> true", "read 0 0 -> 1",
            "stack 0 3 -> true", "read 0 0 -> 0", "read 1 0 -> 0", "read 2 0 -> 0", "stack 0 15 -> true",
            "read 0 0 -> 0", "read 1 0 -> 0", "read 2 0 -> 1");
        Told.of("hill h all;").ask("stack 0 7 -> true", "read 0 0 -> 0");
        Told.of("glyph z 511;hill h all;").ask("stack 0 511 -> true", "read 0 0 -> 26", "stack 0 255 -> true",
            "read 0 0 -> 0");
    }

    static void promise09FromNoneToNineGlyphs() {
        Told.of("glyph a 1;glyph b 2;glyph c 3;glyph d 4;glyph e 5;glyph f 6;glyph g 7;glyph h 8;glyph i 9;hill h all;").ask(
            "stack 0 1 -> true", "read 0 0 -> 1", "stack 0 9 -> true", "read 0 0 -> 9", "stack 0 10 -> true",
            "read 0 0 -> 0").feed("glyph a 1;hill h all;").ask("text 21 -> 2", "stack 0 1 -> true", "read 0 0 -> 1",
            "stack 0 2 -> true", "read 0 0 -> 0", "maybe 0 9 -> 0");
    }

    static void promise09OfSeveralTheFirstByGlyphs() {
        Told.of("glyph z 64;glyph a 72;glyph b 73;hill l low;hill h all;").ask("stack 0 73 -> true", "read 0 0 -> 26",
            "read 1 0 -> 2", "stack 0 64 -> true", "read 0 0 -> 26");
        Told.of("glyph b 73;glyph a 72;glyph z 64;hill l low;").ask("stack 0 64 -> true", "read 0 0 -> 2");
    }

    // Promise 10

    static void promise10NoSuchHillOrLetter() {
        Told.of(PLAIN).ask("taken 0 1 -> 1", "taken 2 26 -> 0").refuse("taken -1 1 -> -1", "taken 3 1 -> -1",
            "taken MIN 1 -> -1", "taken MAX 1 -> -1", "taken 0 0 -> -1", "taken 0 27 -> -1", "taken 0 -1 -> -1",
            "taken 0 MIN -> -1", "taken 0 MAX -> -1");
    }

    static void promise10NoGlyphIs0() {
        Told.of(PLAIN).ask("taken 0 4 -> 0", "taken 1 4 -> 0", "taken 2 26 -> 0", "taken 0 3 -> 3", "taken 1 3 -> 2",
            "taken 1 2 -> 2", "taken 2 2 -> 2");
        Told.of("glyph z 1;hill h all;").ask("taken 0 26 -> 26", "taken 0 25 -> 0");
    }

    // Promise 11

    static void promise11NoSuchFieldOrNoLaw() {
        Told.of("plain 4 2;law eat col + row * 10;").ask("law 0 -> 0", "law 7 -> 13").refuse("law -1 -> " + ERROR,
            "law 8 -> " + ERROR, "law MIN -> " + ERROR, "law MAX -> " + ERROR);
        Told.of("plain 4 2;").refuse("law 0 -> " + ERROR, "law 7 -> " + ERROR);
        Told.of("law eat 1;").ask("law 0 -> 1").feed(" ").ask("text 1 -> 0", "law 0 -> " + ERROR);
    }

    private static void value(String expression, String due) {
        Told.of("law eat " + expression + ";").ask("law 0 -> " + due);
    }

    static void promise11ValuesUpTo10ToThe12() {
        String most = "1000*1000*1000*1000";
        value(most, "1000000000000");
        value(most + "+0", "1000000000000");
        value(most + "+1", ERROR);
        value(most + "+1-1", ERROR);
        value(most + "-1+1", "1000000000000");
        value("0-" + most, "-1000000000000");
        value("0-" + most + "-1", ERROR);
        value("0-" + most + "-1+1", ERROR);
        value("(0-" + most + ")*1", "-1000000000000");
        value(most + "*1", "1000000000000");
        value(most + "*2", ERROR);
        value("(0-" + most + ")*2", ERROR);
        value(most + "*0", "0");
        value("(" + most + ")*(" + most + ")", ERROR);
        value("(" + most + ")/(" + most + ")", "1");
        value("(0-" + most + ")/(" + most + ")", "-1");
        value("(" + most + ")-(" + most + ")", "0");
        value("(0-" + most + ")-(" + most + ")", ERROR);
        value("(" + most + "+1)>0", ERROR);
        value("not (" + most + "+1)", ERROR);
        value("(" + most + "+1)*0", ERROR);
        value("0*(" + most + "+1)", ERROR);
        // Products that would wrap around to something small.
        value("8192*8192*8192*8192*4096", ERROR);
        value("8192*8192*8192*8192*8192*8192", ERROR);
        value("9999*9999*9999", "999700029999");
        value("9999*9999*9999+9999*9999*3+9999*3+1", "1000000000000");
        value("9999*9999*9999+9999*9999*3+9999*3+2", ERROR);
    }

    static void promise11DivisionIsCutTowards0() {
        value("7/2", "3");
        value("(0-7)/2", "-3");
        value("7/(0-2)", "-3");
        value("(0-7)/(0-2)", "3");
        value("1/2", "0");
        value("(0-1)/2", "0");
        value("0/5", "0");
        value("9999/9999", "1");
        value("9998/9999", "0");
    }

    static void promise11DivisionBy0() {
        value("1/1", "1");
        value("1/0", ERROR);
        value("0/0", ERROR);
        value("1/(2-2)", ERROR);
        value("1/(1<1)", ERROR);
        value("1/0*0", ERROR);
        value("1/0=1/0", ERROR);
    }

    static void promise11BothSidesAreWorkedOut() {
        value("0 and 1/0", ERROR);
        value("1/0 and 0", ERROR);
        value("1 or 1/0", ERROR);
        value("1/0 or 1", ERROR);
        value("not 1/0", ERROR);
        value("0 and 1/1", "0");
        value("1 or 1/1", "1");
    }

    static void promise11WhatIsnt0IsAs1() {
        value("not 0", "1");
        value("not 1", "0");
        value("not 2", "0");
        value("not (0-1)", "0");
        value("2 and 3", "1");
        value("(0-2) and 3", "1");
        value("2 and 0", "0");
        value("0 or (0-5)", "1");
        value("0 or 0", "0");
        value("(2 or 0) + (3 and 3)", "2");
    }

    static void promise11ComparisonsAtTheirLimits() {
        String[] signs = {"<", "<=", "=", "<>", ">=", ">"};
        int[] below = {1, 1, 0, 1, 0, 0};
        int[] same = {0, 1, 1, 0, 1, 0};
        int[] above = {0, 0, 0, 1, 1, 1};
        for (int i = 0; i < signs.length; i++) {
            value("4" + signs[i] + "5", "" + below[i]);
            value("5" + signs[i] + "5", "" + same[i]);
            value("6" + signs[i] + "5", "" + above[i]);
            value("(0-1)" + signs[i] + "0", "" + below[i]);
            value("(0-1000*1000*1000*1000)" + signs[i] + "1000*1000*1000*1000", "" + below[i]);
        }
    }

    static void promise11NamesAtTheirLimits() {
        Told.of("plain 8 6;law eat row*10+col;").ask("law 0 -> 0", "law 7 -> 7", "law 8 -> 10", "law 40 -> 50",
            "law 47 -> 57");
        Told.of("plain 1 6;law eat row*10+col;").ask("law 0 -> 0", "law 5 -> 50");
        Told.of("law eat stacks;").ask("law 0 -> 0", "stack 0 1 -> true", "law 0 -> 1", "stack 0 511 -> true",
            "law 0 -> 9");
        Told.of("law eat day;").ask("law 0 -> 0", "days 1 -> 1", "law 0 -> 1").ask("days 98 -> 99", "law 11 -> 99");
        Told.of("law eat day;").ask(DAYS_TO_990).ask("days 9 -> 999", "law 0 -> 999");
    }

    static void promise11LeftIs0OnTheCutAndBehindIt() {
        Told.of("plain 3 1;owner a 1 2;owner z 1 99;strip a 0 0 0 0;strip z 1 0 1 0;law eat left;").ask("law 0 -> 2",
            "law 1 -> 99", "law 2 -> 99", "days 1 -> 1", "law 0 -> 1", "days 1 -> 2", "law 0 -> 0", "days 1 -> 3",
            "law 0 -> 0", "law 1 -> 96", "law 2 -> 99");
    }

    static void promise11VowelIsJustTheShapeOfOne() {
        Told.of("glyph a 3;glyph e 5;glyph i 6;glyph o 9;glyph u 10;glyph b 12;glyph y 17;law eat vowel;").ask("law 0 -> 0",
            "stack 0 3 -> true", "law 0 -> 1", "stack 0 5 -> true", "law 0 -> 1", "stack 0 6 -> true", "law 0 -> 1",
            "stack 0 9 -> true", "law 0 -> 1", "stack 0 10 -> true", "law 0 -> 1", "stack 0 12 -> true", "law 0 -> 0",
            "stack 0 17 -> true", "law 0 -> 0", "stack 0 1 -> true", "law 0 -> 0", "stack 0 7 -> true", "law 0 -> 0",
            "stack 0 0 -> true", "law 0 -> 0");
        // A vowel without a GLYPH has no SHAPE, not the empty one.
        Told.of("glyph a 3;law eat vowel;").ask("law 0 -> 0", "stack 0 3 -> true", "law 0 -> 1");
        Told.of("glyph z 3;law eat vowel;").ask("law 0 -> 0", "stack 0 3 -> true", "law 0 -> 0");
    }

    // Promise 12

    static void promise12NoSuchWordFieldOrWay() {
        Told.of(PLAIN).ask("cost 0 0 0 -> 6", "cost 2 0 0 -> -2", "cost 1 7 1 -> -2", "cost 0 0 1 -> 6").refuse(
            "cost -1 0 0 -> -1", "cost 3 0 0 -> -1", "cost MIN 0 0 -> -1", "cost MAX 0 0 -> -1", "cost 0 -1 0 -> -1",
            "cost 0 8 0 -> -1", "cost 0 MIN 0 -> -1", "cost 0 MAX 0 -> -1", "cost 0 0 -1 -> -1", "cost 0 0 2 -> -1",
            "cost 0 0 MIN -> -1", "cost 0 0 MAX -> -1", "cost 2 8 0 -> -1", "cost 2 0 2 -> -1");
    }

    static void promise12AllItsFieldsAreInThePlain() {
        Told.of(PLAIN).ask("cost 0 2 0 -> 18", "cost 0 6 0 -> 18", "cost 0 3 1 -> 18", "cost 0 0 1 -> 6").refuse(
            "cost 0 3 0 -> -2", "cost 0 7 0 -> -2", "cost 0 4 1 -> -2", "cost 0 7 1 -> -2");
        Told.of("plain 6 5;glyph a 1;word aaaaaa 1;word aaaaa 1;").ask("cost 0 0 0 -> 6", "cost 0 24 0 -> 6",
            "cost 1 0 1 -> 5", "cost 1 5 1 -> 5", "cost 1 1 0 -> 5").refuse("cost 0 1 0 -> -2", "cost 0 0 1 -> -2",
            "cost 1 6 1 -> -2", "cost 1 2 0 -> -2");
        Told.of("plain 1 1;glyph a 1;word a 1;word aa 1;").ask("cost 0 0 0 -> 1", "cost 0 0 1 -> 1").refuse(
            "cost 1 0 0 -> -2", "cost 1 0 1 -> -2");
    }

    static void promise12AllItsLettersHaveGlyphs() {
        String words = "word aaaaaa 1;word xaaaaa 1;word aaaaax 1;word aaxaaa 1;";
        Told.of("plain 6 6;glyph a 1;" + words).ask("cost 0 0 0 -> 6").refuse("cost 1 0 0 -> -2", "cost 2 0 0 -> -2",
            "cost 3 0 0 -> -2", "cost 3 0 1 -> -2");
        Told.of("plain 6 6;glyph a 1;glyph x 2;" + words).ask("cost 1 0 0 -> 6", "cost 2 0 0 -> 6", "cost 3 0 1 -> 6");
        Told.of("plain 6 6;" + words).refuse("cost 0 0 0 -> -2");
    }

    static void promise12EachFieldHasNoStacksOrJustTheShape() {
        // 73 is the letter's SHAPE; one stack less, one more, as many others.
        Told.of(PLAIN).ask("cost 0 0 0 -> 6", "stack 1 73 -> true", "cost 0 0 0 -> 3", "stack 1 72 -> true")
            .refuse("cost 0 0 0 -> -2").ask("stack 1 75 -> true").refuse("cost 0 0 0 -> -2").ask("stack 1 7 -> true")
            .refuse("cost 0 0 0 -> -2").ask("stack 1 0 -> true", "cost 0 0 0 -> 6", "stack 2 511 -> true",
            "cost 0 0 0 -> 6", "stack 0 7 -> true", "cost 0 0 0 -> 3", "stack 1 73 -> true", "cost 0 0 0 -> 0");
    }

    static void promise12CostAtItsLimits() {
        Told.of("plain 6 1;owner o 99 1;strip o 0 0 5 0;glyph a 511;word aaaaaa 1;purse 9999;").ask("cost 0 0 0 -> 5346",
            "set 0 0 0 -> 5346", "count 8 -> 4653", "cost 0 0 0 -> 0");
        Told.of("plain 6 1;owner o 0 1;strip o 0 0 5 0;glyph a 511;word aaaaaa 1;purse 0;").ask("cost 0 0 0 -> 0",
            "set 0 0 0 -> 0", "count 9 -> 54");
        // What the purse has isn't asked.
        Told.of("glyph a 511;word a 1;purse 0;").ask("cost 0 0 0 -> 9");
    }

    // Promise 13

    static void promise13NoSuchWordFieldOrWay() {
        Told.of(PLAIN).refuse("set -1 0 0 -> -1", "set 3 0 0 -> -1", "set MIN 0 0 -> -1", "set MAX 0 0 -> -1",
            "set 0 -1 0 -> -1", "set 0 8 0 -> -1", "set 0 MIN 0 -> -1", "set 0 MAX 0 -> -1", "set 0 0 -1 -> -1",
            "set 0 0 2 -> -1", "set 0 0 MIN -> -1", "set 0 0 MAX -> -1").ask("set 1 7 1 -> -2", "set 1 6 0 -> 18");
    }

    static void promise13ItCantBeSetThere() {
        Told.of(PLAIN).refuse("set 0 3 0 -> -2", "set 0 4 1 -> -2", "set 2 0 0 -> -2").ask("stack 1 72 -> true").refuse(
            "set 0 0 0 -> -2", "set 1 1 0 -> -2").ask("stack 1 73 -> true", "set 0 0 0 -> 3", "look 0 0 -> 7",
            "look 1 0 -> 73", "count 8 -> 27");
        // With an empty purse it can't be SET just as well.
        Told.of("plain 2 1;glyph a 1;word aa 1;purse 0;").refuse("set 0 1 0 -> -2", "set 0 0 0 -> -3");
    }

    static void promise13ThePurseHasntSoMuch() {
        Told.of("glyph a 7;word a 1;purse 3;").ask("set 0 0 0 -> 3", "count 8 -> 0", "count 9 -> 3", "count 12 -> 1")
            .refuse("set 0 1 0 -> -3").ask("set 0 0 1 -> 0", "count 8 -> 0", "count 12 -> 2");
        Told.of("glyph a 7;word a 1;purse 2;").refuse("set 0 0 0 -> -3").ask("stack 0 7 -> true", "set 0 0 0 -> 0",
            "count 8 -> 2");
        Told.of("plain 6 1;owner o 99 1;strip o 0 0 5 0;glyph a 511;word aaaaaa 1;purse 5345;").refuse("set 0 0 0 -> -3");
        Told.of("plain 6 1;owner o 99 1;strip o 0 0 5 0;glyph a 511;word aaaaaa 1;purse 5346;").ask("set 0 0 0 -> 5346",
            "count 8 -> 0");
    }

    static void promise13OnlyItsFieldsAreWritten() {
        Told.of("plain 3 3;glyph a 1;word aa 1;").ask("set 0 4 1 -> 2", "look 4 0 -> 1", "look 7 0 -> 1", "count 9 -> 2",
            "set 0 7 0 -> 1", "look 8 0 -> 1", "count 9 -> 3", "count 8 -> 97");
    }

    // Promise 14

    static void promise14NoSuchFieldOrShape() {
        Told.of(PLAIN).refuse("stack -1 1 -> false", "stack 8 1 -> false", "stack MIN 1 -> false", "stack MAX 1 -> false",
            "stack 0 -1 -> false", "stack 0 512 -> false", "stack 0 MIN -> false", "stack 0 MAX -> false",
            "stack 0 513 -> false").ask("stack 0 511 -> true", "stack 7 1 -> true", "count 9 -> 10", "count 8 -> 30",
            "count 12 -> 2");
    }

    static void promise14ItIsSo() {
        Told.of(PLAIN).refuse("stack 0 0 -> false").ask("stack 0 511 -> true").refuse("stack 0 511 -> false").ask(
            "stack 0 510 -> true", "stack 0 0 -> true").refuse("stack 0 0 -> false").ask("set 0 0 0 -> 6").refuse(
            "stack 0 7 -> false", "stack 1 73 -> false").ask("count 12 -> 4");
    }

    // Promise 15

    static void promise15DaysFrom0To99() {
        Told.of(PLAIN).ask("stack 0 7 -> true").refuse("days -1 -> -1", "days 100 -> -1", "days MIN -> -1", "days MAX -> -1")
            .ask("days 0 -> 0", "look 0 0 -> 7", "count 12 -> 1", "days 1 -> 1", "look 0 0 -> 6", "count 12 -> 0",
                "days 99 -> 100", "count 9 -> 0");
        Told.of(PLAIN).ask("stack 0 7 -> true").refuse("days 0 -> 0");
    }

    static void promise15NoneBehindDay999() {
        Told.of("plain 2 1;seed 5;rain 50;").ask(DAYS_TO_990).ask("stack 0 511 -> true").refuse("days 10 -> -1",
            "days 99 -> -1", "days 100 -> -1").ask("days 9 -> 999", "stack 1 7 -> true").refuse("days 1 -> -1",
            "days 99 -> -1", "days 0 -> 999").ask("count 7 -> 999");
        Told.of("").ask(DAYS_TO_990).ask("days 8 -> 998").refuse("days 2 -> -1").ask("days 1 -> 999");
    }

    static void promise15CutOnItsDayAlone() {
        String plain = "plain 3 1;owner a 1 2;owner b 1 99;strip a 0 0 0 0;strip b 1 0 1 0;law eat 0;";
        Told.of(plain).ask("stack 0 511 -> true", "stack 1 511 -> true", "stack 2 511 -> true", "days 2 -> 2",
            "look 0 0 -> 511", "days 1 -> 3", "look 0 0 -> 0", "look 1 0 -> 511", "stack 0 1 -> true", "days 96 -> 99",
            "look 0 0 -> 1", "look 1 0 -> 511", "days 1 -> 100", "look 0 0 -> 1", "look 1 0 -> 0", "look 2 0 -> 511");
        // The first DAY is 0, on which nothing can be CUT.
        Told.of("plain 1 1;owner a 1 1;strip a 0 0 0 0;law eat 0;").ask("stack 0 1 -> true", "days 1 -> 1",
            "look 0 0 -> 1", "days 1 -> 2", "look 0 0 -> 0");
        Told.of("plain 4 1;owner a 1 1;owner b 1 1;strip a 0 0 1 0;strip b 2 0 2 0;law eat 0;").ask("stack 0 1 -> true",
            "stack 1 1 -> true", "stack 2 1 -> true", "stack 3 1 -> true", "days 2 -> 2", "count 9 -> 1",
            "look 3 0 -> 1");
    }

    static void promise15TheGreatestEAbove0() {
        Told.of("plain 3 1;law eat col - 1;").ask("stack 0 1 -> true", "stack 1 1 -> true", "days 9 -> 9", "count 9 -> 2",
            "stack 2 1 -> true", "days 1 -> 10", "look 2 0 -> 0", "days 9 -> 19", "count 9 -> 2");
        Told.of("plain 3 1;law eat 0 - 1;").ask("stack 0 1 -> true", "days 9 -> 9", "count 9 -> 1");
        Told.of("plain 3 1;law eat 1;").ask("stack 0 1 -> true", "days 1 -> 1", "count 9 -> 0");
        // An empty FIELD's E isn't asked, however great.
        Told.of("plain 3 1;law eat col + 1;").ask("stack 0 1 -> true", "days 1 -> 1", "count 9 -> 0");
    }

    static void promise15OfSeveralTheFirst() {
        Told.of("plain 3 1;law eat 5;").ask("stack 1 3 -> true", "stack 2 3 -> true", "days 1 -> 1", "look 1 0 -> 2",
            "look 2 0 -> 3", "days 1 -> 2", "look 1 0 -> 0", "days 1 -> 3", "look 2 0 -> 2");
        Told.of("plain 3 1;").ask("stack 1 3 -> true", "stack 2 3 -> true", "days 3 -> 3", "look 1 0 -> 0",
            "look 2 0 -> 2");
        Told.of("plain 3 1;law eat col;").ask("stack 0 3 -> true", "stack 1 3 -> true", "stack 2 3 -> true",
            "days 1 -> 1", "look 2 0 -> 2", "look 1 0 -> 3");
    }

    static void promise15AnErrorIs0() {
        Told.of("plain 2 1;law eat 1 / col;").ask("stack 0 1 -> true", "days 5 -> 5", "look 0 0 -> 1",
            "stack 1 3 -> true", "days 1 -> 6", "look 0 0 -> 1", "look 1 0 -> 2");
        Told.of("plain 2 1;law eat 9999 * 9999 * 9999 * 9999;").ask("stack 0 1 -> true", "days 5 -> 5", "count 9 -> 1");
    }

    static void promise15TheLowestBitIsEaten() {
        Told hay = Told.of("plain 1 1;").ask("stack 0 511 -> true");
        for (int day = 1; day <= 9; day++) {
            hay.ask("days 1 -> " + day, "look 0 0 -> " + (511 >> day << day));
        }
        hay.ask("days 1 -> 10", "look 0 0 -> 0", "count 7 -> 10");
    }

    static void promise15TheHighestBitIsRainedAway() {
        // With rain 99 on one FIELD it rains unless the number is 99 of a hundred.
        Told hay = Told.of("plain 1 1;rain 99;law eat 0;").ask("stack 0 511 -> true");
        for (int day = 1; day <= 9; day++) {
            hay.ask("days 1 -> " + day, "look 0 0 -> " + (511 >> day));
        }
        hay.ask("days 1 -> 10", "look 0 0 -> 0", "days 1 -> 11", "look 0 0 -> 0");
    }

    static void promise15RainIfTheNumberIsBelowIt() {
        // From seed 5 on 18655 and 8457: 55 of a hundred, then FIELD 9 of twelve.
        Told.of("seed 5;rain 56;law eat 0;").ask("stack 9 3 -> true", "days 1 -> 1", "look 9 0 -> 1");
        Told.of("seed 5;rain 55;law eat 0;").ask("stack 9 3 -> true", "days 1 -> 1", "look 9 0 -> 3");
        // Without rain on the first DAY the second number is the next odds: 57 of a hundred, then 10616: FIELD 8.
        Told.of("seed 5;rain 55;law eat 0;").ask("stack 8 3 -> true", "stack 9 3 -> true", "days 1 -> 1", "count 9 -> 4");
        Told.of("plain 1 1;rain 1;law eat 0;").ask("stack 0 3 -> true", "days 1 -> 1", "look 0 0 -> 1");
        Told.of("plain 1 1;rain 0;law eat 0;").ask("stack 0 3 -> true", "days 99 -> 99", "look 0 0 -> 3");
    }

    static void promise15RainOnAFieldWithoutStacks() {
        Told.of("seed 5;rain 56;law eat 0;").ask("days 1 -> 1", "count 9 -> 0", "stack 8 3 -> true", "count 9 -> 2");
    }

    static void promise15CutThenEatenThenRainedOn() {
        // On DAY 1 the first FIELD is CUT, so that the sheep go to the second one and the rain finds nothing on the first.
        Told.of("plain 2 1;owner o 1 1;strip o 0 0 0 0;").ask("stack 1 6 -> true", "days 1 -> 1", "look 1 0 -> 4",
            "stack 0 511 -> true", "days 1 -> 2", "look 0 0 -> 0", "look 1 0 -> 0");
        // Eaten down to one stack, then that one is rained away.
        Told.of("plain 1 1;rain 99;").ask("stack 0 3 -> true", "days 1 -> 1", "look 0 0 -> 0");
        // What is eaten whole leaves nothing to the rain.
        Told.of("plain 1 1;rain 99;").ask("stack 0 1 -> true", "days 1 -> 1", "look 0 0 -> 0");
    }

    static void promise15TheLawsDayIsTheOneThatGoesBy() {
        Told.of("plain 1 1;law eat day = 0;").ask("stack 0 3 -> true", "days 1 -> 1", "look 0 0 -> 2", "days 1 -> 2",
            "look 0 0 -> 2");
        Told.of("plain 1 1;law eat day = 999;").ask(DAYS_TO_990).ask("stack 0 3 -> true", "days 9 -> 999",
            "look 0 0 -> 3");
    }

    // Promise 16

    static void promise16NoSuchWordOrHill() {
        Told.of(PLAIN).ask("stands 0 0 -> 0", "stands 2 2 -> 0").refuse("stands -1 0 -> -1", "stands 3 0 -> -1",
            "stands MIN 0 -> -1", "stands MAX 0 -> -1", "stands 0 -1 -> -1", "stands 0 3 -> -1", "stands 0 MIN -> -1",
            "stands 0 MAX -> -1");
    }

    static void promise16PlacesUpToTheEdges() {
        Told.of("plain 3 2;glyph a 1;word aa 1;word aaa 1;word aaaa 1;hill h all;").ask("stack 0 1 -> true",
            "stands 0 0 -> 0", "stack 1 1 -> true", "stands 0 0 -> 1", "stack 2 1 -> true", "stands 0 0 -> 2",
            "stands 1 0 -> 1", "stack 3 1 -> true", "stands 0 0 -> 3", "stands 2 0 -> 0", "stack 4 1 -> true",
            "stack 5 1 -> true", "stands 0 0 -> 7", "stands 1 0 -> 2", "stands 2 0 -> 0");
        Told.of("plain 8 6;glyph a 1;word a 1;hill h all;").ask("stack 0 1 -> true", "stack 47 1 -> true",
            "stands 0 0 -> 4");
    }

    static void promise16NoWordGoesRoundAnEdge() {
        Told.of("plain 3 2;glyph a 1;word aa 1;hill h all;").ask("stack 2 1 -> true", "stack 3 1 -> true",
            "stands 0 0 -> 0");
    }

    static void promise16InEachFieldItsLetterIsRead() {
        Told.of(PLAIN).ask("set 0 0 0 -> 6", "stands 0 0 -> 1", "stands 0 1 -> 1", "stands 0 2 -> 1", "stack 1 64 -> true",
            "stands 0 0 -> 0", "stands 0 1 -> 1", "stands 0 2 -> 0", "stack 1 0 -> true", "stands 0 1 -> 0");
        // A WORD with a LETTER that has no GLYPH is READ nowhere.
        Told.of("glyph a 1;word ax 1;word x 1;hill h all;").ask("stack 0 1 -> true", "stands 0 0 -> 0", "stands 1 0 -> 0");
    }
}
