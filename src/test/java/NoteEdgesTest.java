import java.lang.reflect.InvocationTargetException;

/** Promises 34 to 43, their part of ==== 3 and ==== 4 at their limits: NOTES, TALES, TRIED, undo, IMAGES, counts. */
public final class NoteEdgesTest {
    private static final String PLAIN = "plain 4 2;owner o 3 2;strip o 2 0 3 1;glyph a 7;glyph b 73;glyph c 64;"
        + "word ab 10;word ba 5;hill h all;hill l low;purse 30;wash r 1;sign s r;";
    private static final String[] DAYS_TO_990 = {"days 99 -> 99", "days 99 -> 198", "days 99 -> 297", "days 99 -> 396",
        "days 99 -> 495", "days 99 -> 594", "days 99 -> 693", "days 99 -> 792", "days 99 -> 891", "days 99 -> 990"};

    public static void main(String[] args) throws InvocationTargetException, IllegalAccessException {
        Edges.run(NoteEdgesTest.class);
    }

    // Promise 34

    static void promise34NoSuchHillFieldOrLetter() {
        Told.of(PLAIN).refuse("note -1 0 0 -> -1", "note 2 0 0 -> -1", "note MIN 0 0 -> -1", "note MAX 0 0 -> -1",
            "note 0 -1 0 -> -1", "note 0 8 0 -> -1", "note 0 MIN 0 -> -1", "note 0 MAX 0 -> -1", "note 0 0 -1 -> -1",
            "note 0 0 27 -> -1", "note 0 0 MIN -> -1", "note 0 0 MAX -> -1").ask("note 0 0 0 -> 0", "note 1 7 26 -> 1",
            "count 10 -> 2");
        Told.of("glyph a 1;").refuse("note 0 0 0 -> -1");
    }

    static void promise34TwentyFourAtMost() {
        Told hay = Told.of(PLAIN);
        for (int i = 0; i < 24; i++) {
            hay.ask("note 0 0 1 -> " + i, "count 10 -> " + (i + 1));
        }
        hay.refuse("note 0 0 1 -> -1", "note 1 1 0 -> -1", "strike 0 -> -1").ask("count 10 -> 24", "count 11 -> 24");
        // STRIKES count, and what is STRUCK goes on counting.
        Told mixed = Told.of(PLAIN).ask("note 0 0 1 -> 0");
        for (int i = 1; i < 24; i++) {
            mixed.ask("strike 0 -> " + i);
        }
        mixed.refuse("note 0 0 1 -> -1", "strike 23 -> -1").ask("count 10 -> 24", "tales -> 20");
    }

    static void promise34ALetterWithoutAGlyph() {
        // It may be noted, but no TALE has it.
        Told.of(PLAIN).ask("note 0 0 26 -> 0", "tales -> 0", "strike 0 -> 1", "tales -> 20");
    }

    // Promise 35

    static void promise35NoSuchNote() {
        Told.of(PLAIN).refuse("strike 0 -> -1", "strike -1 -> -1").ask("note 0 0 1 -> 0").refuse("strike 1 -> -1",
            "strike -1 -> -1", "strike MIN -> -1", "strike MAX -> -1").ask("strike 0 -> 1", "strike 1 -> 2").refuse(
            "strike 3 -> -1").ask("strike 2 -> 3", "count 10 -> 4");
    }

    static void promise35TwentyFourAtMost() {
        Told hay = Told.of(PLAIN);
        for (int i = 0; i < 23; i++) {
            hay.ask("note 0 0 1 -> " + i);
        }
        hay.ask("strike 22 -> 23").refuse("strike 0 -> -1", "strike 23 -> -1", "note 0 0 0 -> -1", "strike 24 -> -1");
    }

    static void promise35AStrikeMayBeStruck() {
        Told hay = Told.of(PLAIN).ask("note 0 0 1 -> 0", "tales -> 2");
        for (int i = 0; i < 23; i++) {
            hay.ask("strike " + i + " -> " + (i + 1), "tales -> " + (i % 2 == 0 ? 20 : 2));
        }
        hay.refuse("strike 23 -> -1");
        // Twice STRUCK: both STRIKES must be STRUCK.
        Told.of(PLAIN).ask("note 0 0 1 -> 0", "strike 0 -> 1", "strike 0 -> 2", "strike 2 -> 3", "tales -> 20",
            "strike 1 -> 4", "tales -> 2", "strike 4 -> 5", "tales -> 20");
    }

    // Promise 36

    static void promise36NoSuchN() {
        Told.of(PLAIN).refuse("known 1 -> false", "known -2 -> false", "known MIN -> false", "known MAX -> false").ask(
            "known 0 -> true", "known -1 -> true", "note 0 0 1 -> 0", "known 1 -> true").refuse("known 2 -> false",
            "known -2 -> false").ask("known 0 -> true").refuse("known 2 -> false").ask("count 11 -> 0");
    }

    static void promise36ByAllAlsoThoseToCome() {
        Told.of(PLAIN).ask("note 0 0 1 -> 0", "known -1 -> true", "note 0 1 2 -> 1", "tales -> 1", "count 11 -> 2");
        Told.of(PLAIN).ask("note 0 0 1 -> 0", "known 1 -> true", "note 0 1 2 -> 1", "tales -> 2", "count 11 -> 1",
            "known 2 -> true", "tales -> 1", "note 0 0 2 -> 2", "tales -> 1", "known -1 -> true", "tales -> 0");
        Told.of(PLAIN).ask("known 0 -> true", "note 0 0 1 -> 0", "tales -> 20", "count 11 -> 0");
    }

    static void promise36OnlyStruckByOneOfThese() {
        Told.of(PLAIN).ask("note 0 0 1 -> 0", "strike 0 -> 1", "strike 1 -> 2", "known 1 -> true", "tales -> 2",
            "known 2 -> true", "tales -> 20", "known 3 -> true", "tales -> 2", "known 0 -> true", "tales -> 20");
    }

    // Promise 37

    static void promise37WithoutNotesAllThatCanBeSet() {
        Told.of(PLAIN).ask("tales -> 20");
        new Told().ask("tales -> 0");
        Told.of("plain 1 1;glyph a 1;word a 1;word b 1;word aa 1;").ask("tales -> 2");
        Told.of("plain 8 6;glyph a 1;glyph b 2;glyph c 3;glyph d 4;glyph e 5;glyph f 6;word a 1;word b 1;word c 1;word d 1;"
            + "word e 1;word f 1;").ask("tales -> 576", "tale 575 0 -> 5", "tale 575 1 -> 47", "tale 575 2 -> 1").refuse(
            "tale 576 0 -> -2");
    }

    static void promise37InAnEmptyPlain() {
        // What stands now doesn't matter, nor what the purse has.
        Told.of(PLAIN).ask("stack 0 511 -> true", "stack 1 511 -> true", "tales -> 20", "note 0 0 1 -> 0", "tales -> 2");
        Told.of("plain 1 1;glyph a 511;word a 1;hill h all;purse 0;").ask("tales -> 2");
    }

    static void promise37AllKnownOnesAreSo() {
        Told.of(PLAIN).ask("note 0 7 0 -> 0", "tales -> 16", "note 0 0 1 -> 1", "tales -> 2", "note 0 4 2 -> 2", "tales -> 1",
            "tale 0 2 -> 1", "note 0 4 0 -> 3", "tales -> 0");
        // From the low hill a c is READ as a b.
        Told.of("plain 1 1;glyph b 73;glyph c 64;word c 1;hill l low;hill h all;").ask("note 0 0 2 -> 0", "tales -> 2",
            "note 1 0 3 -> 1", "tales -> 2", "note 0 0 3 -> 2", "tales -> 0");
    }

    static void promise37AtEachPlace() {
        Told.of(PLAIN).ask("note 0 2 1 -> 0", "tales -> 3", "note 0 3 2 -> 1", "tales -> 1", "tale 0 0 -> 0", "tale 0 1 -> 2",
            "tale 0 2 -> 0");
        Told.of(PLAIN).ask("note 0 7 1 -> 0", "tales -> 2", "tale 0 0 -> 1", "tale 0 1 -> 3", "tale 0 2 -> 1", "tale 1 0 -> 1",
            "tale 1 1 -> 6", "tale 1 2 -> 0");
        // Where a stack costs nothing, too.
        Told.of("plain 1 1;owner o 0 1;strip o 0 0 0 0;glyph a 1;word a 1;").ask("tales -> 2");
    }

    // Promise 38

    static void promise38NoSuchOnes() {
        Told.of(PLAIN).ask("tale 0 0 -> 0", "tale 19 2 -> 0").refuse("tale -1 0 -> -1", "tale MIN 0 -> -1", "tale 0 -1 -> -1",
            "tale 0 3 -> -1", "tale 0 MIN -> -1", "tale 0 MAX -> -1", "tale 20 3 -> -1");
    }

    static void promise38ThereAreNoSoMany() {
        Told.of(PLAIN).ask("tale 19 0 -> 1").refuse("tale 20 0 -> -2", "tale 20 2 -> -2", "tale MAX 1 -> -2").ask(
            "note 0 0 1 -> 0", "tale 1 0 -> 0").refuse("tale 2 0 -> -2");
        new Told().refuse("tale 0 0 -> -2");
    }

    static void promise38ByWordsThenPlaces() {
        Told.of("plain 2 2;glyph a 1;glyph b 2;word ab 1;word a 1;").ask("tales -> 12", "tale 0 1 -> 0", "tale 0 2 -> 0",
            "tale 1 1 -> 0", "tale 1 2 -> 1", "tale 2 1 -> 1", "tale 2 2 -> 1", "tale 3 1 -> 2", "tale 3 2 -> 0",
            "tale 3 0 -> 0", "tale 4 0 -> 1", "tale 4 1 -> 0", "tale 4 2 -> 0", "tale 11 1 -> 3", "tale 11 2 -> 1");
    }

    // Promise 39

    static void promise39NoSuchOnes() {
        Told.of(PLAIN).ask("stack 0 7 -> true", "tried 0 0 0 -> 3", "tried 3 0 0 -> 3").refuse("tried -1 0 0 -> -1",
            "tried 4 0 0 -> -1", "tried MIN 0 0 -> -1", "tried MAX 0 0 -> -1", "tried 0 0 -1 -> -1", "tried 0 0 100 -> -1",
            "tried 0 0 MIN -> -1", "tried 0 0 MAX -> -1", "tried 3 0 100 -> -1");
    }

    static void promise39I0OfAllBut3() {
        Told.of(PLAIN).ask("stack 2 7 -> true", "tried 0 0 0 -> 3", "tried 1 0 0 -> 3", "tried 2 0 0 -> 3",
            "tried 3 0 0 -> 0").refuse("tried 0 1 0 -> -1", "tried 0 -1 0 -> -1", "tried 1 1 0 -> -1", "tried 1 -1 0 -> -1",
            "tried 2 1 0 -> -1", "tried 2 -1 0 -> -1", "tried 3 1 0 -> -1", "tried 3 -1 0 -> -1", "tried 3 MAX 0 -> -1",
            "tried 3 MIN 0 -> -1");
        Told.of("owner a 1 1;owner b 1 1;owner c 1 1;owner d 1 1;owner e 1 1;strip e 0 0 0 0;").ask("stack 0 7 -> true",
            "tried 3 3 0 -> 3", "tried 3 4 0 -> 0").refuse("tried 3 5 0 -> -1");
        new Told().refuse("tried 3 0 0 -> -1");
    }

    static void promise39DaysFrom0To99() {
        Told.of("plain 8 6;law eat 1;").ask("stack 0 511 -> true", "stack 47 511 -> true", "tried 2 0 0 -> 18",
            "tried 2 0 1 -> 17", "tried 2 0 17 -> 1", "tried 2 0 18 -> 0", "tried 2 0 99 -> 0", "count 9 -> 18",
            "count 7 -> 0", "count 12 -> 2");
        Told.of("plain 1 1;law eat day = 98;").ask("stack 0 1 -> true", "tried 0 0 98 -> 1", "tried 0 0 99 -> 0");
        Told.of(PLAIN).ask("stack 0 7 -> true", "stack 2 7 -> true").refuse("tried 2 0 3 -> 0", "tried 3 0 9 -> 0",
            "tried 0 0 9 -> 0", "tried 1 0 9 -> 3");
    }

    static void promise39NoneBehindDay999() {
        Told.of("plain 1 1;law eat 1;").ask(DAYS_TO_990).ask("stack 0 511 -> true", "tried 0 0 9 -> 0", "tried 0 0 8 -> 1",
            "days 6 -> 996", "tried 0 0 3 -> 0", "stack 0 511 -> true", "tried 0 0 2 -> 7", "tried 0 0 3 -> 6",
            "tried 0 0 4 -> 6", "tried 0 0 99 -> 6", "tried 2 0 99 -> 6", "tried 1 0 99 -> 9", "days 3 -> 999",
            "tried 0 0 0 -> 6", "tried 0 0 1 -> 6", "tried 0 0 99 -> 6");
    }

    static void promise39NothingIsCut() {
        Told.of("plain 1 1;owner o 1 2;strip o 0 0 0 0;law eat 0;").ask("stack 0 7 -> true", "tried 0 0 2 -> 3",
            "tried 0 0 3 -> 3", "tried 1 0 2 -> 3", "tried 1 0 3 -> 0", "tried 2 0 3 -> 0");
    }

    static void promise39NothingIsEaten() {
        Told.of("plain 1 1;").ask("stack 0 7 -> true", "tried 1 0 99 -> 3", "tried 0 0 3 -> 0", "tried 2 0 3 -> 0",
            "tried 2 0 2 -> 1");
    }

    static void promise39NoRain() {
        Told.of("plain 1 1;rain 99;law eat 0;").ask("stack 0 7 -> true", "tried 2 0 99 -> 3", "tried 0 0 1 -> 2",
            "tried 1 0 1 -> 2", "tried 1 0 3 -> 0", "tried 1 0 3 -> 0");
    }

    static void promise39AnOwnersFieldsAreCutNow() {
        Told.of("plain 3 1;owner o 1 9;owner p 1 9;strip o 0 0 0 0;strip p 1 0 1 0;law eat 0;").ask("stack 0 1 -> true",
            "stack 1 3 -> true", "stack 2 7 -> true", "tried 3 0 0 -> 5", "tried 3 1 0 -> 4", "tried 3 1 9 -> 4",
            "tried 3 1 10 -> 3", "tried 0 0 10 -> 6");
        // Then the DAYS go by as ever: the sheep find what is left.
        Told.of("plain 2 1;owner o 1 9;strip o 0 0 0 0;").ask("stack 0 511 -> true", "stack 1 3 -> true",
            "tried 3 0 1 -> 1", "tried 3 0 2 -> 0");
    }

    // Promise 40

    static void promise40NoneIsLeft() {
        Told.of(PLAIN).refuse("undo -> -1").ask("stack 0 1 -> true", "undo -> 0", "look 0 0 -> 0").refuse("undo -> -1");
    }

    static void promise40TwentyAtMost() {
        Told hay = Told.of(PLAIN);
        for (int shape = 1; shape <= 20; shape++) {
            hay.ask("stack 0 " + shape + " -> true", "count 12 -> " + shape);
        }
        for (int left = 19; left >= 0; left--) {
            hay.ask("undo -> " + left, "look 0 0 -> " + left);
        }
        hay.refuse("undo -> -1");
        // With a 21st the first one can't be undone any more.
        Told more = Told.of(PLAIN).ask("set 0 0 0 -> 6");
        for (int shape = 1; shape <= 20; shape++) {
            more.ask("stack 7 " + shape + " -> true", "count 12 -> " + Math.min(20, shape + 1));
        }
        for (int left = 19; left >= 0; left--) {
            more.ask("undo -> " + left, "look 7 0 -> " + left, "look 0 0 -> 7", "count 8 -> 24");
        }
        more.ask("look 7 0 -> 0", "look 0 0 -> 7", "count 8 -> 24").refuse("undo -> -1");
    }

    static void promise40TheLatestFirstOfEveryKind() {
        Told.of(PLAIN).ask("set 0 0 0 -> 6", "hang 0 -> 1", "stack 0 0 -> true", "lower 0 -> 0", "set 0 4 0 -> 6",
            "count 12 -> 5", "count 8 -> 18", "undo -> 4", "count 8 -> 24", "look 4 0 -> 0", "undo -> 3", "count 16 -> 1",
            "undo -> 2", "look 0 0 -> 7", "undo -> 1", "count 16 -> 0", "undo -> 0", "count 8 -> 30", "count 9 -> 0");
    }

    static void promise40IfNoDayWentBySince() {
        Told.of(PLAIN).ask("stack 0 7 -> true", "hang 0 -> 1", "days 0 -> 0", "count 12 -> 2").refuse("days -1 -> -1").ask(
            "days 1 -> 1", "count 12 -> 0").refuse("undo -> -1").ask("stack 1 1 -> true", "undo -> 0", "look 0 0 -> 6",
            "count 16 -> 1").refuse("undo -> -1");
    }

    static void promise40WhatIsRefusedCantBeUndone() {
        Told.of(PLAIN).ask("set 0 3 0 -> -2", "set 9 0 0 -> -1", "stack 0 0 -> false", "lower 0 -> -1", "count 12 -> 0",
            "hang 0 -> 1", "hang 0 -> -1", "count 12 -> 1").refuse("stack 0 512 -> false");
        // Nor NOTES, nor what is KNOWN, nor an IMAGE.
        Told.of(PLAIN).ask("note 0 0 1 -> 0", "strike 0 -> 1", "known 1 -> true", "keep -> 0", "count 12 -> 0").refuse(
            "undo -> -1");
    }

    // Promise 41

    static void promise41InPlaceOfOneAhead() {
        Told.of(PLAIN).ask("keep -> 0", "stack 0 7 -> true", "keep -> 0", "stack 0 0 -> true", "back -> 0",
            "look 0 0 -> 7", "days 2 -> 2", "keep -> 2", "days 1 -> 3", "back -> 2", "look 0 0 -> 4");
    }

    static void promise41WhichDayItIs() {
        Told.of("").ask("keep -> 0", "days 99 -> 99", "keep -> 99").ask("days 1 -> 100", "back -> 99");
        Told.of("").ask(DAYS_TO_990).ask("days 9 -> 999", "keep -> 999").refuse("days 1 -> -1").ask("back -> 999");
    }

    static void promise41NothingElseIsChanged() {
        Told.of(PLAIN).ask("stack 0 7 -> true", "keep -> 0", "count 12 -> 1", "count 9 -> 3", "undo -> 0", "back -> 0",
            "look 0 0 -> 7");
    }

    // Promise 42

    static void promise42ThereIsNone() {
        Told.of(PLAIN).ask("stack 0 7 -> true").refuse("back -> -1").ask("keep -> 0", "back -> 0").feed("purse 1;").ask(
            "text 8 -> 1").refuse("back -> -1");
        // A TEXT with a FAULT leaves the IMAGE.
        Told.of(PLAIN).ask("stack 0 7 -> true", "keep -> 0", "stack 0 0 -> true").feed("purse;").ask("text 6 -> -1",
            "back -> 0", "look 0 0 -> 7");
    }

    static void promise42AllIsAsInTheImage() {
        Told.of(PLAIN + "seed 5;rain 60;").ask("set 0 0 0 -> 6", "hang 0 -> 1", "days 1 -> 1", "keep -> 1", "days 9 -> 10",
            "lower 0 -> 0", "set 0 0 1 -> 6", "stack 7 1 -> true", "back -> 1", "count 7 -> 1", "count 8 -> 24",
            "count 16 -> 1", "look 7 0 -> 0", "count 12 -> 0").refuse("undo -> -1");
        // The rain goes on from there as it did.
        Told.of("seed 5;rain 60;law eat 0;").ask("stack 9 3 -> true", "keep -> 0", "days 1 -> 1", "look 9 0 -> 1",
            "back -> 0", "look 9 0 -> 3", "days 1 -> 1", "look 9 0 -> 1");
        // The IMAGE can be gone back to again.
        Told.of(PLAIN).ask("keep -> 0", "stack 0 1 -> true", "back -> 0", "stack 0 2 -> true", "back -> 0", "count 9 -> 0");
    }

    static void promise42AllButNotes() {
        Told.of(PLAIN).ask("note 0 0 1 -> 0", "keep -> 0", "note 0 1 2 -> 1", "strike 0 -> 2", "back -> 0", "count 10 -> 3",
            "tales -> 3");
    }

    static void promise42NothingToUndoThen() {
        Told.of(PLAIN).ask("stack 0 1 -> true", "keep -> 0", "stack 0 2 -> true", "count 12 -> 2", "back -> 0",
            "count 12 -> 0").refuse("undo -> -1").ask("look 0 0 -> 1", "stack 0 3 -> true", "undo -> 0", "look 0 0 -> 1");
    }

    // Promise 43

    static void promise43NoSuchWhat() {
        Told.of(PLAIN).ask("count 0 -> 4", "count 16 -> 0").refuse("count -1 -> -1", "count 17 -> -1", "count MIN -> -1",
            "count MAX -> -1");
    }

    static void promise43EachAtItsMost() {
        Told.of("plain 8 6;owner a 1 1;owner b 1 1;owner c 1 1;owner d 1 1;owner e 1 1;glyph a 1;glyph b 2;glyph c 3;glyph d 4;"
            + "glyph e 5;glyph f 6;glyph g 7;glyph h 8;glyph i 9;word a 1;word b 1;word c 1;word d 1;word e 1;word f 1;"
            + "hill a all;hill b low;hill c high;purse 9999;").ask("count 0 -> 8", "count 1 -> 6", "count 2 -> 5",
            "count 3 -> 9", "count 4 -> 6", "count 5 -> 3", "count 8 -> 9999");
        Told.of("hill a all;hill b low;hill c high;link a b 1;link b c 1;link c a 1;wash a 9;wash b 1;wash c 1;wash d 1;"
            + "sign a a;sign b a;sign c a;sign d a;sign e a;law eat " + "not ".repeat(63) + "1;").ask("count 6 -> 64",
            "count 13 -> 4", "count 14 -> 5", "count 15 -> 3", "hang 0 -> 1", "hang 1 -> 2", "hang 2 -> 3", "hang 3 -> 4",
            "hang 4 -> 5", "count 16 -> 31");
    }

    static void promise43EachAtItsLeast() {
        Told hay = Told.of("plain 1 1;purse 0;");
        for (int what = 0; what <= 16; what++) {
            hay.ask("count " + what + " -> " + (what < 2 ? 1 : 0));
        }
    }

    static void promise43StacksInAll() {
        Told hay = Told.of("plain 8 6;");
        for (int field = 0; field < 48; field++) {
            hay.ask("stack " + field + " 511 -> true");
        }
        hay.ask("count 9 -> 432", "count 12 -> 20", "days 1 -> 1", "count 9 -> 431");
    }

    static void promise43ByHowManyItIsKnown() {
        Told.of(PLAIN).ask("count 11 -> 0", "note 0 0 1 -> 0", "count 11 -> 1", "known 0 -> true", "count 11 -> 0",
            "known 1 -> true", "count 11 -> 1", "note 0 0 1 -> 1", "count 11 -> 1", "known -1 -> true", "count 11 -> 2");
    }
}
