import java.lang.reflect.InvocationTargetException;

/** Promises 1 to 5 and the Terms at their limits: a new object, the TAPE, the TEXT, FAULTS, names. */
public final class TextEdgesTest {
    private static final String[] LANGUAGE = ("plain owner strip glyph word hill wash sign link purse seed rain law eat "
        + "all low high or and not stacks vowel row col day left").split(" ");
    private static final String OWNERS = "owner a 1 1;owner b 1 1;owner c 1 1;owner d 1 1;owner e 1 1;";
    private static final String GLYPHS = "glyph a 1;glyph b 2;glyph c 3;glyph d 4;glyph e 5;glyph f 6;glyph g 7;"
        + "glyph h 8;glyph i 9;";
    private static final String WORDS = "word a 1;word b 1;word c 1;word d 1;word e 1;word f 1;";
    private static final String HILLS = "hill a all;hill b low;hill c high;";
    private static final String COLOURS = "wash a 1;wash b 1;wash c 1;wash d 1;";
    private static final String SIGNS = "sign a a;sign b b;sign c c;sign d d;sign e a b c d;";
    private static final String LINKS = "link a b 1;link b c 1;link c a 1;";

    public static void main(String[] args) throws InvocationTargetException, IllegalAccessException {
        Edges.run(TextEdgesTest.class);
    }

    // Promise 1

    static void promise01ThePlainIs4By3() {
        new Told().ask("count 0 -> 4", "count 1 -> 3", "look 0 0 -> 0", "look 11 0 -> 0").refuse(
            "look 12 0 -> throws.IndexOutOfBoundsException", "look -1 0 -> throws.IndexOutOfBoundsException",
            "stack 12 1 -> false").ask("stack 11 1 -> true");
    }

    static void promise01NothingIsTold() {
        Told fresh = new Told();
        for (int what = 2; what <= 16; what++) {
            fresh.ask("count " + what + " -> " + (what == 8 ? 100 : 0));
        }
        fresh.ask("look 0 2 -> -1", "look 0 3 -> 1", "look 0 4 -> 99", "fault 0 -> 0", "fault 1 -> -1", "apart -> 0",
            "tales -> 0").refuse("back -> -1", "undo -> -1", "cost 0 0 0 -> -1", "seen 0 0 -> -1", "pieces 0 -> -1",
            "hang 0 -> -1", "named 0 33554432 -> -1", "law 0 -> -9223372036854775808");
    }

    static void promise01TheTapeIsEmpty() {
        new Told().refuse("text 1 -> -2").ask("feed 0 0 0 0 0 -> 20");
        new Told().ask("text 0 -> 0", "fault 0 -> 0", "fault 1 -> -1", "count 0 -> 4", "count 1 -> 3");
    }

    static void promise01GoodFor512Calls() {
        Told told = new Told();
        HayWriting hay = new HayWriting();
        // Five calls each: stacks that go up and down, a DAY at last.
        for (int call = 1; call <= 510; call += 5) {
            int day = call / 5;
            told.check("days 0", Told.answer(hay, "days 0"), "" + day);
            told.check("stack", Told.answer(hay, "stack 0 511"), "true");
            told.check("undo", Told.answer(hay, "undo"), "0");
            told.check("count 9", Told.answer(hay, "count 9"), "0");
            told.check("days 1", Told.answer(hay, "days 1"), "" + (day + 1));
        }
        told.check("the 511th call", Told.answer(hay, "stack 0 511"), "true");
        told.check("the 512th call", Told.answer(hay, "look 0 1"), "9");
    }

    // Promise 2

    static void promise02FeedUpTo700Bytes() {
        Told tape = new Told().feed("purse 7;");
        for (int bytes = 40; bytes <= 700; bytes += 20) {
            tape.ask("feed 538976288 538976288 538976288 538976288 538976288 -> " + bytes);
        }
        // Nothing of what is refused comes: a # at 700 would be a FAULT.
        tape.refuse("feed 589505315 0 0 0 0 -> -1", "text 701 -> -2", "text MAX -> -2").ask("text 700 -> 1",
            "count 8 -> 7", "feed 0 0 0 0 0 -> 20");
    }

    static void promise02FourBytesOfEachNumberTheHighestFirst() {
        for (int place = 0; place < 20; place++) {
            int[] n = new int[5];
            for (int k = 0; k < 20; k++) {
                n[k / 4] = n[k / 4] << 8 | (k == place ? 255 : 32);
            }
            String call = "feed " + n[0] + " " + n[1] + " " + n[2] + " " + n[3] + " " + n[4] + " -> 20";
            new Told().ask(call, "text 20 -> -1", "fault 0 -> 1", "fault 1 -> " + place);
            new Told().ask(call, "text " + place + " -> 0", "fault 0 -> 0");
        }
    }

    static void promise02TwentyBytesComeBehindTheOthers() {
        new Told().feed("purse               ").feed("                   7").ask("feed 991961376 0 0 0 0 -> 60",
            "text 41 -> 1", "count 8 -> 7");
    }

    // Promise 3: text() itself

    static void promise03TheTapesFirstNBytes() {
        new Told().feed("purse 7;purse 88;").refuse("text 21 -> -2", "text -1 -> -2", "text MIN -> -2", "text MAX -> -2")
            .ask("text 8 -> 1", "count 8 -> 7").refuse("text 1 -> -2").ask("feed 0 0 0 0 0 -> 20");
        new Told().feed("purse 7;            ").ask("text 20 -> 1", "count 8 -> 7");
        new Told().feed("purse 7;").ask("text 7 -> -1", "fault 0 -> 1", "fault 1 -> 7", "count 8 -> 100");
    }

    static void promise03WhatIsBehindThemDoesntBelongToAToken() {
        new Told().feed("purse 99999;").ask("text 10 -> -1", "fault 0 -> 1", "fault 1 -> 10");
        new Told().feed("word abcdefg 1;").ask("text 11 -> -1", "fault 0 -> 1", "fault 1 -> 11");
        new Told().feed("purse 7;plainn").ask("text 13 -> -1", "fault 0 -> 1", "fault 1 -> 13");
        new Told().feed("law eat 1<=").ask("text 10 -> -1", "fault 0 -> 1", "fault 1 -> 10");
        // A longer TEXT ahead doesn't show through.
        new Told().feed("purse 99999;").ask("text 12 -> -1").feed("purse 7").ask("text 7 -> -1", "fault 0 -> 1",
            "fault 1 -> 7");
    }

    static void promise03SevenHundredTokens() {
        new Told().feed(";".repeat(700)).ask("text 700 -> -1", "fault 0 -> 1", "fault 1 -> 0");
        new Told().feed("law eat " + "(1".repeat(346)).ask("text 700 -> -1", "fault 0 -> 1", "fault 1 -> 10");
        String dense = "law eat 1" + "*1".repeat(31) + ";";
        Told.of(dense + " ".repeat(700 - dense.length())).ask("law 0 -> 1", "count 6 -> 63");
        Told.fault(dense + "(".repeat(700 - dense.length()), 1, dense.length());
    }

    static void promise03NoBytesAreATextWithoutLines() {
        Told.of("plain 2 1;purse 7;").ask("stack 0 1 -> true", "keep -> 0").feed("#").ask("text 0 -> 0", "count 0 -> 4",
            "count 1 -> 3", "count 8 -> 100", "count 9 -> 0", "feed 0 0 0 0 0 -> 20", "fault 0 -> 0", "fault 1 -> -1")
            .refuse("back -> -1", "undo -> -1");
    }

    static void promise03TheTapeIsEmptyBehindAFaultToo() {
        new Told().feed("purse 7;#").ask("text 9 -> -1").refuse("text 1 -> -2").ask("feed 0 0 0 0 0 -> 20",
            "fault 0 -> 1", "fault 1 -> 8");
    }

    static void promise03ATextBeginsAllAnew() {
        String text = "hill h all;glyph a 7;word a 1;wash r 1;sign s r;purse 30;seed 5;rain 60;law eat 0;";
        Told told = Told.of(text).ask("set 0 9 0 -> 3", "hang 0 -> 1", "note 0 0 1 -> 0", "known 0 -> true",
            "keep -> 0", "days 1 -> 1", "look 9 0 -> 3", "stack 1 4 -> true", "news 0 0 -> 0").feed(text).ask(
            "text " + text.length() + " -> 9", "count 7 -> 0", "count 8 -> 30", "count 9 -> 0", "count 10 -> 0",
            "count 11 -> 0", "count 12 -> 0", "count 16 -> 0", "news 0 0 -> -2");
        told.refuse("back -> -1", "undo -> -1", "known 1 -> false", "lower 0 -> -1");
        // All are KNOWN again, also those to come, and the rain begins anew.
        told.ask("note 0 0 1 -> 0", "count 11 -> 1", "stack 9 7 -> true", "days 1 -> 1", "look 9 0 -> 3");
    }

    static void promise03NothingOfTheTextAheadIsLeft() {
        String all = "plain 8 6;" + OWNERS + "strip a 0 0 7 5;".repeat(9) + GLYPHS + WORDS + HILLS + COLOURS + SIGNS + LINKS
            + "purse 1;seed 5;rain 99;law eat 0;";
        Told told = Told.of(all).feed(all).ask("text " + all.length() + " -> 49").feed(" ").ask("text 1 -> 0");
        for (int what = 0; what <= 16; what++) {
            told.ask("count " + what + " -> " + (what == 0 ? 4 : what == 1 ? 3 : what == 8 ? 100 : 0));
        }
        told.ask("look 0 2 -> -1", "look 0 3 -> 1", "look 0 4 -> 99", "shape 1 -> 0", "named 1 33554432 -> -1");
        // No rain, no law: the first FIELD is eaten.
        told.ask("stack 0 511 -> true", "stack 1 511 -> true", "days 9 -> 9", "look 0 0 -> 0", "look 1 0 -> 511");
        // The seed is 0 again, from which it rains on the first FIELD on the first DAY.
        Told.of("seed 99999;").feed("rain 1;law eat 0;").ask("text 17 -> 2", "stack 0 3 -> true", "days 1 -> 1",
            "look 0 0 -> 1");
    }

    static void promise03NothingOfAFaultyTextIsLeft() {
        String law = "law eat ((((((((1))))))));";
        Told.of("").feed("law eat ((((((((1+2*").ask("text 20 -> -1").feed(law).ask("text " + law.length() + " -> 1",
            "law 0 -> 1", "count 6 -> 1");
        Told.of("").feed("law eat not 1 and 0 or").ask("text 22 -> -1").feed("law eat 7;").ask("text 10 -> 1", "law 0 -> 7",
            "count 6 -> 1");
        Told.of("").feed("law eat 1<").ask("text 10 -> -1").feed("law eat 1<2;").ask("text 12 -> 1", "law 0 -> 1");
        Told.of("").feed("law eat 1+").ask("text 10 -> -1").feed("law eat not 1;").ask("text 14 -> 1", "law 0 -> 0");
        Told.of("").feed("owner o 1 1;purse 1;#").ask("text 21 -> -1", "count 2 -> 0", "count 8 -> 100").feed(
            "owner o 1 1;purse 2;").ask("text 20 -> 2", "count 2 -> 1", "count 8 -> 2");
    }

    static void promise03AnswersHowManyLines() {
        Told told = new Told().feed(" \n ");
        told.ask("text 3 -> 0");
        String all = "plain 8 6;" + OWNERS + "strip a 0 0 0 0;".repeat(9) + GLYPHS + WORDS + HILLS + COLOURS + SIGNS + LINKS
            + "purse 1;seed 1;rain 1;law eat 1;";
        new Told().feed(all).ask("text " + all.length() + " -> 49", "count 2 -> 5", "count 3 -> 9", "count 4 -> 6",
            "count 5 -> 3", "count 6 -> 1", "count 13 -> 4", "count 14 -> 5", "count 15 -> 3");
    }

    // Promise 3: TOKENS

    static void promise03EveryByteThatIsNoBlank() {
        for (int sign = 0; sign < 256; sign++) {
            String text = String.valueOf((char) sign);
            if (sign == 10 || sign == 32) {
                Told.of(text).ask("fault 0 -> 0");
            } else {
                new Told("byte " + sign).feed(text).ask("text 1 -> -1", "fault 0 -> 1", "fault 1 -> 0");
            }
        }
    }

    static void promise03EveryByteBetweenAWordAndANumber() {
        for (int sign = 0; sign < 256; sign++) {
            Told told = new Told("byte " + sign).feed("purse" + (char) sign + "7;");
            if (sign == 10 || sign == 32) {
                told.ask("text 8 -> 1", "count 8 -> 7");
            } else if (sign >= '0' && sign <= '9') {
                told.ask("text 8 -> 1", "count 8 -> " + ((sign - '0') * 10 + 7));
            } else if (sign >= 'a' && sign <= 'z') {
                // The word is one of six letters then.
                told.ask("text 8 -> -1", "fault 0 -> 1", "fault 1 -> 0");
            } else {
                told.ask("text 8 -> -1", "fault 0 -> 1", "fault 1 -> 5");
            }
        }
    }

    static void promise03AWordOfOneToSixLetters() {
        for (String kind : new String[] {"owner # 1 1;", "word # 1;", "hill # all;", "wash # 1;", "wash c 1;sign # c;"}) {
            Told.of(kind.replace("#", "a"));
            Told.of(kind.replace("#", "zzzzzz"));
            Told.fault(kind.replace("#", "^zzzzzzz"), 1);
            Told.fault(kind.replace("#", "^" + "z".repeat(300)), 1);
            Told.fault(kind.replace("#", "^1"), 1);
            Told.fault(kind.replace("#", "^A"), 1);
        }
        Told.fault("owner abcdef 1 1;strip ^abcdefg 0 0 0 0;", 1);
        Told.fault("wash abcdef 1;sign s ^abcdefg;", 1);
        Told.fault("hill abcdef all;link ^abcdefg abcdef 1;", 1);
        Told.fault("hill abcdef all;link abcdef ^abcdefg 1;", 1);
        Told.fault("hill a ^allllll;", 1);
        Told.fault("law eat ^stackss;", 1);
        Told.fault("^plainnn 1 1;", 1);
    }

    static void promise03NoWordOfTheLanguage() {
        for (String word : LANGUAGE) {
            Told.fault("owner ^" + word + " 1 1;", 1);
            Told.fault("word ^" + word + " 1;", 1);
            Told.fault("hill ^" + word + " all;", 1);
            Told.fault("glyph ^" + word + " 1;", 1);
            Told.fault("wash ^" + word + " 1;", 1);
            Told.fault("sign ^" + word + " 1;", 1);
            Told.fault("strip ^" + word + " 0 0 0 0;", 1);
            Told.fault("link ^" + word + " 1;", 1);
            Told.fault("hill a all;link a ^" + word + " 1;", 1);
            Told.fault("wash a 1;sign s a ^" + word + ";", 1);
            if (word.length() < 6) {
                Told.of("word " + word + "s 1;hill " + word + "x all;");
                Told.of("owner " + word.substring(1) + " 1 1;");
            }
        }
    }

    static void promise03OnlyWordsOfLinesBeginOne() {
        for (int i = 0; i < LANGUAGE.length; i++) {
            if (i >= 13) {
                Told.fault("purse 1;^" + LANGUAGE[i] + " 1;", 1);
            } else {
                Told.fault("purse 1;" + (LANGUAGE[i].equals("purse") ? "^purse" : LANGUAGE[i] + "^"),
                    LANGUAGE[i].equals("purse") ? 3 : 1);
            }
        }
        for (String other : new String[] {"a", "abcdef", "1", ";", "(", ")", "+", "-", "*", "/", "<", "<=", "=", "<>",
            ">=", ">", "#"}) {
            Told.fault("purse 1;^" + other, 1);
        }
    }

    static void promise03NumbersOfAnyLength() {
        Told.of("purse " + "0".repeat(600) + "9999;").ask("count 8 -> 9999");
        Told.fault("purse ^" + "0".repeat(600) + "10000;", 2);
        Told.fault("purse ^" + "9".repeat(600) + ";", 2);
        // 2 to the 31, the 32 and the 64, with 7 more: what would wrap around.
        Told.fault("purse ^2147483655;", 2);
        Told.fault("purse ^4294967303;", 2);
        Told.fault("purse ^18446744073709551623;", 2);
        Told.fault("law eat ^4294967303;", 2);
        Told.fault("plain ^4294967297 1;", 2);
    }

    static void promise03TokensNeedNoBlanks() {
        Told.of("plain2 3;purse7;hill h all;word a1;word b2;").ask("count 0 -> 2", "count 1 -> 3", "count 8 -> 7",
            "count 4 -> 2");
        Told.of("law eat(1)and(2);").ask("law 0 -> 1", "count 6 -> 3");
        Told.fault("plain ^23;", 2);
        Told.fault("plain2^a", 1);
        Told.fault("law eat1and2^", 1);
    }

    // Promise 3: LINES and their limits

    static void promise03WideFrom1To8() {
        Told.of("plain 1 6;").ask("count 0 -> 1", "look 5 0 -> 0").refuse("look 6 0 -> throws.IndexOutOfBoundsException");
        Told.of("plain 8 1;").ask("count 0 -> 8", "look 7 0 -> 0").refuse("look 8 0 -> throws.IndexOutOfBoundsException");
        Told.fault("plain ^0 1;", 2);
        Told.fault("plain ^9 1;", 2);
    }

    static void promise03HighFrom1To6() {
        Told.of("plain 1 1;").ask("count 1 -> 1", "look 0 0 -> 0").refuse("look 1 0 -> throws.IndexOutOfBoundsException");
        Told.of("plain 8 6;").ask("count 1 -> 6", "look 47 0 -> 0").refuse(
            "look 48 0 -> throws.IndexOutOfBoundsException");
        Told.fault("plain 1 ^0;", 2);
        Told.fault("plain 1 ^7;", 2);
    }

    static void promise03PlainAheadOfAllStrips() {
        Told.of("owner o 1 1;purse 1;word a 1;plain 8 6;strip o 7 5 7 5;").ask("look 47 2 -> 0", "look 46 2 -> -1");
        Told.fault("owner o 1 1;strip o 0 0 0 0;^plain 8 6;", 4);
        Told.fault("owner o 1 1;strip o 0 0 0 0;^plain", 4);
    }

    static void promise03FieldsAreNumberedByRows() {
        Told.of("plain 3 2;owner o 1 1;owner p 1 1;strip o 2 0 2 0;strip p 0 1 0 1;").ask("look 1 2 -> -1",
            "look 2 2 -> 0", "look 3 2 -> 1", "look 4 2 -> -1");
    }

    static void promise03OwnersAtMost5() {
        Told.of(OWNERS).ask("count 2 -> 5");
        Told.fault(OWNERS + "^owner f 1 1;", 2);
        Told.fault(OWNERS + "^owner a 100 0;", 2);
    }

    static void promise03PriceFrom0To99() {
        Told.of("owner o 0 1;strip o 0 0 0 0;").ask("look 0 3 -> 0");
        Told.of("owner o 99 1;strip o 0 0 0 0;").ask("look 0 3 -> 99");
        Told.fault("owner o ^100 1;", 2);
        Told.fault("owner o ^-1 1;", 1);
    }

    static void promise03CutFrom1To99() {
        Told.of("owner o 1 1;strip o 0 0 0 0;").ask("look 0 4 -> 1");
        Told.of("owner o 1 99;strip o 0 0 0 0;").ask("look 0 4 -> 99");
        Told.fault("owner o 1 ^0;", 2);
        Told.fault("owner o 1 ^100;", 2);
    }

    static void promise03StripsAtMost9() {
        Told.of("owner o 1 1;" + "strip o 0 0 0 0;".repeat(8) + "strip o 3 2 3 2;").ask("look 11 2 -> 0");
        Told.fault("owner o 1 1;" + "strip o 0 0 0 0;".repeat(9) + "^strip o 0 0 0 0;", 2);
        Told.fault("owner o 1 1;" + "strip o 0 0 0 0;".repeat(9) + "^strip x", 2);
    }

    static void promise03StripsWithinThePlain() {
        Told.of("owner o 1 1;strip o 3 2 3 2;").ask("look 11 2 -> 0", "look 10 2 -> -1", "look 7 2 -> -1");
        Told.fault("owner o 1 1;strip o ^4 2 3 2;", 2);
        Told.fault("owner o 1 1;strip o 3 ^3 3 2;", 2);
        Told.fault("owner o 1 1;strip o 3 2 ^4 2;", 2);
        Told.fault("owner o 1 1;strip o 3 2 3 ^3;", 2);
        Told.of("plain 8 6;owner o 1 1;strip o 0 0 7 5;").ask("look 0 2 -> 0", "look 47 2 -> 0", "look 24 2 -> 0");
        Told.fault("plain 8 6;owner o 1 1;strip o 0 0 ^8 5;", 2);
        Told.fault("plain 8 6;owner o 1 1;strip o 0 0 7 ^6;", 2);
        Told.of("plain 1 1;owner o 1 1;strip o 0 0 0 0;").ask("look 0 2 -> 0");
        Told.fault("plain 1 1;owner o 1 1;strip o ^1 0 1 0;", 2);
        Told.fault("plain 1 1;owner o 1 1;strip o 0 ^1 0 1;", 2);
    }

    static void promise03StripsEndNotBelowTheirFirst() {
        Told.of("owner o 1 1;strip o 2 1 2 1;").ask("look 6 2 -> 0", "look 5 2 -> -1", "look 7 2 -> -1");
        Told.fault("owner o 1 1;strip o 2 1 ^1 1;", 2);
        Told.fault("owner o 1 1;strip o 2 1 2 ^0;", 2);
        Told.fault("owner o 1 1;strip o 2 1 ^1 0;", 2);
    }

    static void promise03AStripInPlaceOfAnothers() {
        Told.of("owner o 2 3;owner p 5 7;strip o 0 0 3 2;strip p 1 1 2 1;strip o 2 1 2 1;").ask("look 4 2 -> 0",
            "look 5 2 -> 1", "look 5 3 -> 5", "look 5 4 -> 7", "look 6 2 -> 0", "look 6 3 -> 2", "look 6 4 -> 3");
    }

    static void promise03FieldsOfNobody() {
        Told.of("plain 2 1;owner o 9 1;strip o 1 0 1 0;law eat 0;").ask("look 0 2 -> -1", "look 0 3 -> 1",
            "look 0 4 -> 99", "stack 0 511 -> true", "days 99 -> 99", "days 2 -> 101", "look 0 0 -> 511", "look 0 4 -> 99");
    }

    static void promise03GlyphsAtMost9() {
        Told.of(GLYPHS).ask("count 3 -> 9", "shape 9 -> 9");
        Told.fault(GLYPHS + "^glyph j 10;", 2);
        Told.fault(GLYPHS + "^glyph a 1;", 2);
    }

    static void promise03AGlyphIsOfOneLetter() {
        Told.of("glyph a 1;glyph z 2;").ask("shape 1 -> 1", "shape 26 -> 2");
        Told.fault("glyph ^ab 1;", 2);
        Told.fault("glyph ^abcdef 1;", 2);
        Told.fault("glyph ^abcdefg 1;", 1);
        Told.fault("glyph a 1;glyph ^aa 1;", 2);
        Told.fault("glyph ^7 1;", 1);
        Told.fault("glyph ^;", 1);
    }

    static void promise03ShapesFrom1To511() {
        Told.of("glyph a 1;").ask("shape 1 -> 1");
        Told.of("glyph a 511;").ask("shape 1 -> 511");
        Told.fault("glyph a ^0;", 2);
        Told.fault("glyph a ^512;", 2);
    }

    static void promise03EachLetterAndShapeOnce() {
        Told.of("glyph a 1;glyph b 2;").ask("count 3 -> 2");
        Told.fault("glyph a 1;glyph ^a 2;", 3);
        Told.fault("glyph a 1;glyph ^a 1;", 3);
        Told.fault("glyph a 511;glyph b ^511;", 3);
        Told.fault("glyph a 1;glyph b 2;glyph c ^1;", 3);
        Told.fault("glyph a 1;glyph b 2;glyph c ^0002;", 3);
    }

    static void promise03WordsAtMost6() {
        Told.of(WORDS).ask("count 4 -> 6", "cost 5 0 0 -> -2");
        Told.fault(WORDS + "^word g 1;", 2);
        Told.fault(WORDS + "^word a 100;", 2);
    }

    static void promise03WorthFrom0To99() {
        Told.of("glyph a 1;word a 0;hill h all;law eat 0;").ask("pays 0 0 -> -1", "summer 0 1 30 0 -> 0");
        Told.of("glyph a 1;word a 99;hill h all;law eat 0;").ask("pays 0 0 -> 9800", "summer 0 1 30 0 -> 2970");
        Told.fault("word a ^100;", 2);
    }

    static void promise03HillsAtMost3() {
        Told.of(HILLS).ask("count 5 -> 3", "seen 2 0 -> 0");
        Told.fault(HILLS + "^hill d all;", 2);
        Told.fault(HILLS + "^hill a up;", 2);
    }

    static void promise03SightIsAllLowOrHigh() {
        Told.of(HILLS).ask("stack 0 73 -> true", "seen 0 0 -> 73", "seen 1 0 -> 64", "seen 2 0 -> 1");
        Told.fault("hill a ^a;", 1);
        Told.fault("hill a ^1;", 1);
        Told.fault("hill a^;", 1);
        for (String word : LANGUAGE) {
            if (!word.equals("all") && !word.equals("low") && !word.equals("high")) {
                Told.fault("hill a ^" + word + ";", 1);
            }
        }
    }

    static void promise03ColoursAtMost4() {
        Told.of(COLOURS).ask("count 13 -> 4", "pieces 3 -> 1");
        Told.fault(COLOURS + "^wash e 1;", 2);
        Told.fault(COLOURS + "^wash a 10;", 2);
    }

    static void promise03PiecesFrom0To9() {
        Told.of("wash r 0;").ask("pieces 0 -> 0");
        Told.of("wash r 9;").ask("pieces 0 -> 9");
        Told.fault("wash r ^10;", 2);
    }

    static void promise03SignsAtMost5() {
        Told.of(COLOURS + SIGNS).ask("count 14 -> 5", "wants 16 -> 0");
        Told.fault(COLOURS + SIGNS + "^sign f a;", 2);
        Told.fault(COLOURS + SIGNS + "^sign a x;", 2);
    }

    static void promise03ASignIsARowOf1To4Colours() {
        Told.of("wash r 9;sign s r;").ask("wants 1 -> 0", "hang 0 -> 1", "pieces 0 -> 8");
        Told.of("wash r 9;sign s r r r r;").ask("hang 0 -> 1", "pieces 0 -> 5");
        Told.fault("wash r 9;sign s^;", 1);
        Told.fault("wash r 9;sign s^", 1);
        Told.fault("wash r 9;sign s r r r r ^r;", 2);
        Told.fault("wash r 9;sign s r r r r ^r r;", 2);
    }

    static void promise03LinksAtMost3() {
        Told.of(HILLS + LINKS).ask("count 15 -> 3");
        Told.fault(HILLS + LINKS + "^link a b 1;", 2);
        Told.fault(HILLS + LINKS + "^link x y 0;", 2);
    }

    static void promise03EachTwoHillsOnceEitherWay() {
        Told.of(HILLS + "link a b 1;link c a 1;").ask("count 15 -> 2");
        Told.fault(HILLS + "link a b 1;link a ^b 2;", 3);
        Told.fault(HILLS + "link a b 1;link b ^a 2;", 3);
        Told.fault(HILLS + "link a b 1;link c a 1;link a ^c 2;", 3);
        Told.fault(HILLS + "link a ^a 1;", 5);
        Told.fault(HILLS + "link a b 1;link b ^b 1;", 5);
    }

    static void promise03LinkDaysFrom1To20() {
        // From the low hill an a is taken for a b, so that it has to be told of it.
        String hills = "glyph b 8;glyph a 9;word a 1;hill x all;hill y low;law eat 0;link x y ";
        Told.of(hills + "1;").ask("stack 0 9 -> true", "news 0 0 -> 0", "news 0 1 -> 1");
        Told.of(hills + "20;").ask("stack 0 9 -> true", "news 0 0 -> 0", "news 0 1 -> 20");
        Told.fault("hill x all;hill y low;link x y ^0;", 2);
        Told.fault("hill x all;hill y low;link x y ^21;", 2);
    }

    static void promise03PurseFrom0To9999() {
        Told.of("").ask("count 8 -> 100");
        Told.of("purse 0;").ask("count 8 -> 0");
        Told.of("purse 9999;").ask("count 8 -> 9999");
        Told.fault("purse ^10000;", 2);
    }

    static void promise03SeedFrom0To99999() {
        // From 0 the first number is 0 of a hundred, the second one 0 of twelve.
        Told.of("rain 1;law eat 0;").ask("stack 0 3 -> true", "days 1 -> 1", "look 0 0 -> 1");
        Told.of("seed 0;rain 1;law eat 0;").ask("stack 0 3 -> true", "days 1 -> 1", "look 0 0 -> 1");
        long first = (99999L * 1103515245L + 12345) % (1L << 31);
        long second = (first * 1103515245L + 12345) % (1L << 31);
        long odds = first / 65536 % 100;
        long field = second / 65536 % 12;
        Told.of("seed 99999;rain " + (odds + 1) + ";law eat 0;").ask("stack " + field + " 3 -> true", "days 1 -> 1",
            "look " + field + " 0 -> 1");
        Told.of("seed 99999;rain " + odds + ";law eat 0;").ask("stack " + field + " 3 -> true", "days 1 -> 1",
            "look " + field + " 0 -> 3");
        Told.fault("seed ^100000;", 2);
    }

    static void promise03RainFrom0To99() {
        Told.of("law eat 0;").ask("stack 0 511 -> true", "days 99 -> 99", "count 9 -> 9");
        Told.of("plain 1 1;rain 0;law eat 0;").ask("stack 0 511 -> true", "days 99 -> 99", "count 9 -> 9");
        Told.of("plain 1 1;rain 99;law eat 0;").ask("stack 0 511 -> true", "days 20 -> 20", "count 9 -> 0");
        Told.fault("rain ^100;", 2);
    }

    static void promise03NamesOfTheirKind() {
        Told.of("owner a 1 1;word a 1;hill a all;wash a 1;sign a a;glyph a 1;").ask("count 2 -> 1", "count 4 -> 1",
            "count 5 -> 1", "count 13 -> 1", "count 14 -> 1");
        Told.fault("owner a 1 1;owner ^a 100 1;", 3);
        Told.fault("owner a 1 1;owner b 1 1;owner ^a 2 2;", 3);
        Told.fault("word a 1;word aa 1;word ^aa 100;", 3);
        Told.fault("hill a all;hill ^a up;", 3);
        Told.fault("wash a 1;wash ^a 10;", 3);
        Told.fault("wash c 1;sign a c;sign ^a x;", 3);
        Told.of("word a 1;word aa 1;word aaa 1;word aaaaaa 1;word aaaaab 1;").ask("count 4 -> 5");
    }

    // Promise 3 and 4: FAULTS

    static void promise04Fault1TheLengthIfMoreMustCome() {
        Told.fault("plain^", 1);
        Told.fault("plain   ^", 1);
        Told.fault("plain 1^", 1);
        Told.fault("plain 1 1^", 1);
        Told.fault("plain 1 1 \n^", 1);
        Told.fault("owner^", 1);
        Told.fault("owner o^", 1);
        Told.fault("owner o 1^", 1);
        Told.fault("owner o 1 1^", 1);
        Told.fault("owner o 1 1;strip^", 1);
        Told.fault("owner o 1 1;strip o^", 1);
        Told.fault("owner o 1 1;strip o 0^", 1);
        Told.fault("owner o 1 1;strip o 0 0^", 1);
        Told.fault("owner o 1 1;strip o 0 0 0^", 1);
        Told.fault("owner o 1 1;strip o 0 0 0 0^", 1);
        Told.fault("glyph^", 1);
        Told.fault("glyph a^", 1);
        Told.fault("glyph a 1^", 1);
        Told.fault("word^", 1);
        Told.fault("word a^", 1);
        Told.fault("word a 1^", 1);
        Told.fault("hill^", 1);
        Told.fault("hill a^", 1);
        Told.fault("hill a all^", 1);
        Told.fault("wash^", 1);
        Told.fault("wash a^", 1);
        Told.fault("wash a 1^", 1);
        Told.fault("wash a 1;sign^", 1);
        Told.fault("wash a 1;sign s^", 1);
        Told.fault("wash a 1;sign s a^", 1);
        Told.fault("wash a 1;sign s a a a a^", 1);
        Told.fault("hill a all;hill b all;link^", 1);
        Told.fault("hill a all;hill b all;link a^", 1);
        Told.fault("hill a all;hill b all;link a b^", 1);
        Told.fault("hill a all;hill b all;link a b 1^", 1);
        Told.fault("purse^", 1);
        Told.fault("purse 1^", 1);
        Told.fault("seed^", 1);
        Told.fault("rain^", 1);
        Told.fault("law^", 1);
        Told.fault("law eat^", 1);
        Told.fault("law eat 1^", 1);
        Told.fault("law eat 1+^", 1);
        Told.fault("law eat 1<^", 1);
        Told.fault("law eat not^", 1);
        Told.fault("law eat (^", 1);
        Told.fault("law eat (1^", 1);
        Told.fault("law eat (1)^", 1);
        // The length is that of the TEXT, also if it is the whole TAPE.
        Told.fault("purse 1" + " ".repeat(693) + "^", 1);
    }

    static void promise04Fault1ATokenThatCantStandThere() {
        Told.fault("plain ^a 1;", 1);
        Told.fault("plain 1 ^all;", 1);
        Told.fault("plain 1 1 ^99;", 1);
        Told.fault("plain 1 1 ^plain 2 2;", 1);
        Told.fault("plain ^;", 1);
        Told.fault("plain 1^;", 1);
        Told.fault("owner o 1^;", 1);
        Told.fault("owner o ^o 1;", 1);
        Told.fault("owner o 1 1 ^1;", 1);
        Told.fault("owner o 1 1;strip o 0 0 0^;", 1);
        Told.fault("owner o 1 1;strip ^0 0 0 0;", 1);
        Told.fault("owner o 1 1;strip o 0 0 0 0 ^0;", 1);
        Told.fault("glyph a ^a;", 1);
        Told.fault("glyph a 1 ^1;", 1);
        Told.fault("word a ^a;", 1);
        Told.fault("word a 1 ^1;", 1);
        Told.fault("hill a all ^all;", 1);
        Told.fault("wash a ^(;", 1);
        Told.fault("wash a 1 ^1;", 1);
        Told.fault("wash a 1;sign s a ^1;", 1);
        Told.fault("wash a 1;sign s a a a a ^1;", 1);
        Told.fault("hill a all;hill b all;link a ^1;", 1);
        Told.fault("hill a all;hill b all;link a b ^a;", 1);
        Told.fault("hill a all;hill b all;link a b 1 ^1;", 1);
        Told.fault("purse ^a;", 1);
        Told.fault("seed ^seed;", 1);
        Told.fault("rain 1 ^1;", 1);
        Told.fault("law ^1;", 1);
        Told.fault("law ^a 1;", 1);
        Told.fault("law eat 1;^;", 1);
        Told.fault("purse 1;^;", 1);
    }

    static void promise04Fault2AtTheNumberOrTheWord() {
        Told.fault("owner o ^100 100;", 2);
        Told.fault(OWNERS + "  \n ^owner", 2);
        Told.fault(GLYPHS + "^glyph", 2);
        Told.fault(WORDS + "^word", 2);
        Told.fault(HILLS + "^hill", 2);
        Told.fault(COLOURS + "^wash", 2);
        Told.fault(COLOURS + SIGNS + "^sign", 2);
        Told.fault(HILLS + LINKS + "^link", 2);
        Told.fault("owner a 1 1;" + "strip a 0 0 0 0;".repeat(9) + "^strip", 2);
    }

    static void promise04Fault3ToldAlready() {
        Told.fault("plain 1 1;^plain 1 1;", 3);
        Told.fault("purse 1;^purse 1;", 3);
        Told.fault("seed 1;^seed 1;", 3);
        Told.fault("rain 0;^rain 0;", 3);
        Told.fault("law eat 0;^law eat 0;", 3);
        Told.fault("law eat 0;^law", 3);
        Told.fault("purse 1;^purse #", 3);
        Told.fault("purse 1;seed 1;rain 1;plain 1 1;law eat 1;^purse 1;", 3);
    }

    static void promise04Fault4NotToldAhead() {
        Told.fault("strip ^o 0 0 0 0;owner o 1 1;", 4);
        Told.fault("owner o 1 1;strip ^oo 0 0 0 0;", 4);
        Told.fault("hill o all;strip ^o 0 0 0 0;", 4);
        Told.fault("link ^a b 1;", 4);
        Told.fault("hill a all;link a ^b 1;hill b all;", 4);
        Told.fault("hill a all;link ^b b 1;", 4);
        Told.fault("owner b 1 1;hill a all;link a ^b 1;", 4);
        Told.fault("sign s ^r;wash r 1;", 4);
        Told.fault("wash r 1;sign s r ^g;", 4);
        Told.fault("wash r 1;sign s r r r ^g;", 4);
        Told.fault("wash r 1;sign s ^s;", 4);
    }

    static void promise04Fault5ALinkWithItself() {
        Told.fault("hill a all;link a ^a 1;", 5);
        Told.fault("hill a all;link a ^a 21;", 5);
        Told.fault("hill a all;link a ^a;", 5);
        Told.fault("hill a all;hill b all;link b ^b 1;", 5);
    }

    static void promise04TheFirstFaultAlongTheText() {
        Told.fault("owner o ^100 0;owner o 1 1;#", 2);
        Told.fault("word a 1;word ^a 100;", 3);
        Told.fault("strip ^o 9 9 9 9;", 4);
        Told.fault("hill a all;link a ^a 0;#", 5);
        Told.fault("purse 1;^# plain 9 9;", 1);
        Told.fault("purse ^10000 #", 2);
        Told.fault("glyph ^ab 0;", 2);
        Told.fault("law eat ^10000 )", 2);
    }

    static void promise04OfOnePlaceTheLeast() {
        Told.fault("plain 1 1;owner o 1 1;strip o 0 0 0 0;^plain 1 1;", 3);
        Told.fault("wash r 1;sign s r r r r ^g;", 2);
        Told.fault("wash r 1;sign s r r r r ^abcdefg;", 1);
        Told.fault("wash r 1;sign s r r r r ^eat;", 1);
        Told.fault("glyph ^abcdefg 1;", 1);
        Told.fault("purse 1 ^10000;", 1);
        Told.fault("law eat 1 ^10000;", 1);
        Told.fault("law eat ((((((((1 ^(1;", 1);
        // A 65th KNOT that can't stand there.
        Told.fault("law eat not 1" + "+1".repeat(31) + " ^1;", 1);
        Told.fault("law eat not 1" + "+1".repeat(31) + " ^not 1;", 1);
        Told.fault("law eat not 1<1" + "+1".repeat(30) + "^<1;", 1);
        Told.fault("law eat 1" + "+1".repeat(31) + "+^not 1;", 1);
        Told.fault("law eat 1" + "+1".repeat(31) + "+^and;", 1);
        Told.fault("law eat 1" + "+1".repeat(31) + "+^cow;", 1);
    }

    static void promise04OfTheLatestTextThatWasNotRefused() {
        new Told().feed("purse 1;#").ask("fault 0 -> 0", "fault 1 -> -1").refuse("text 21 -> -2").ask("fault 0 -> 0",
            "fault 1 -> -1", "text 9 -> -1", "fault 0 -> 1", "fault 1 -> 8").refuse("text 1 -> -2", "text -1 -> -2").ask(
            "fault 0 -> 1", "fault 1 -> 8", "days 1 -> 1", "keep -> 1", "back -> 1", "fault 0 -> 1", "fault 1 -> 8",
            "text 0 -> 0", "fault 0 -> 0", "fault 1 -> -1");
        new Told().feed("#").ask("text 1 -> -1", "fault 0 -> 1", "fault 1 -> 0").refuse("fault 2 -> -1",
            "fault -1 -> -1", "fault MIN -> -1", "fault MAX -> -1");
    }

    // Promise 3: E

    static void promise03NumbersOfEFrom0To9999() {
        Told.of("law eat 0;").ask("law 0 -> 0");
        Told.of("law eat 9999;").ask("law 0 -> 9999");
        Told.fault("law eat ^10000;", 2);
        Told.fault("law eat 1+^10000;", 2);
        Told.fault("law eat (^10000);", 2);
    }

    static void promise03EightParenthesesOpen() {
        Told.of("law eat " + "(".repeat(8) + "1" + ")".repeat(8) + ";").ask("law 0 -> 1", "count 6 -> 1");
        Told.of("law eat " + "(".repeat(8) + "1" + ")".repeat(8) + "+" + "(".repeat(8) + "1" + ")".repeat(8) + ";").ask(
            "law 0 -> 2", "count 6 -> 3");
        Told.of("law eat ((((((((1)+(2)))))))-(3));").ask("law 0 -> 0", "count 6 -> 5");
        Told.fault("law eat " + "(".repeat(8) + "^(1" + ")".repeat(9) + ";", 2);
        Told.fault("law eat " + "(".repeat(8) + "1+^(1", 2);
        Told.fault("law eat " + "(".repeat(8) + "1)+(1+^(", 2);
        Told.fault("law eat (1)^);", 1);
        Told.fault("law eat ((1)^;", 1);
        Told.fault("law eat (^);", 1);
    }

    static void promise03SixtyFourKnots() {
        String ones = "1" + "+1".repeat(31);
        Told.of("law eat not " + ones + ";").ask("count 6 -> 64", "law 0 -> 0");
        Told.of("law eat " + ones + ";").ask("count 6 -> 63", "law 0 -> 32");
        Told.of("law eat " + "not ".repeat(63) + "row;").ask("count 6 -> 64", "law 0 -> 1");
        Told.of("law eat not (" + ones + ");").ask("count 6 -> 64", "law 0 -> 0");
        for (String sign : new String[] {"+", "-", "*", "/", "<", "<=", "=", "<>", ">=", ">", " and ", " or "}) {
            int blanks = sign.startsWith(" ") ? 1 : 0;
            Told.fault("law eat not " + ones + " ".repeat(blanks) + "^" + sign.trim() + " 1;", 2);
            // As the 64th it can stand, and what it needs is the 65th.
            Told.fault("law eat " + ones + sign + "^1;", 2);
            Told.fault("law eat " + ones + sign + "^row;", 2);
        }
        Told.fault("law eat " + ones + " and ^not 1;", 2);
        Told.fault("law eat " + "not ".repeat(64) + "^not 1;", 2);
        Told.fault("law eat " + "not ".repeat(64) + "^stacks;", 2);
        // A '(' is no KNOT.
        Told.fault("law eat " + "not ".repeat(64) + "(^1);", 2);
    }

    static void promise03SignsOfTwoCharacters() {
        Told.of("law eat 1<=1;").ask("law 0 -> 1", "count 6 -> 3");
        Told.of("law eat 1>=2;").ask("law 0 -> 0", "count 6 -> 3");
        Told.of("law eat 1<>1;").ask("law 0 -> 0", "count 6 -> 3");
        Told.fault("law eat 1< ^=1;", 1);
        Told.fault("law eat 1> ^=1;", 1);
        Told.fault("law eat 1< ^>1;", 1);
        Told.fault("law eat 1<\n^=1;", 1);
        Told.fault("law eat 1=^<1;", 1);
        Told.fault("law eat 1=^>1;", 1);
        Told.fault("law eat 1=^=1;", 1);
        Told.fault("law eat 1>^<1;", 1);
        Told.fault("law eat 1>^>1;", 1);
        Told.fault("law eat 1<^<1;", 1);
        Told.fault("law eat 1<=^=1;", 1);
        Told.fault("law eat 1<>^=1;", 1);
        Told.fault("law eat 1>=^=1;", 1);
        Told.fault("law eat 1<=^>1;", 1);
    }

    static void promise03OneComparisonOfTwo() {
        Told.of("law eat (1<2)<3;").ask("law 0 -> 1");
        Told.of("law eat 1<2 and 2<3 or 3<1;").ask("law 0 -> 1");
        Told.of("law eat 1<(2<3);").ask("law 0 -> 0");
        Told.fault("law eat 1<2^<3;", 1);
        Told.fault("law eat 1=2^=3;", 1);
        Told.fault("law eat 1<2+3*4^>=5;", 1);
        Told.fault("law eat (1<2^<3);", 1);
        Told.fault("law eat not 1<2^<3;", 1);
        Told.fault("law eat 1 and 1<2^<3;", 1);
    }

    static void promise03NotOnlyAheadOfAB() {
        Told.of("law eat not not 3;").ask("law 0 -> 1");
        Told.of("law eat 1 and not 0 or not 1;").ask("law 0 -> 1");
        Told.of("law eat 1 + (not 0);").ask("law 0 -> 2");
        Told.of("law eat not 1 < 2;").ask("law 0 -> 0");
        Told.fault("law eat 1+^not 0;", 1);
        Told.fault("law eat 1-^not 0;", 1);
        Told.fault("law eat 1*^not 0;", 1);
        Told.fault("law eat 1/^not 0;", 1);
        Told.fault("law eat 1<^not 0;", 1);
        Told.fault("law eat 1=^not 0;", 1);
        Told.fault("law eat 1 ^not 0;", 1);
        Told.fault("law eat not^;", 1);
        Told.fault("law eat not ^and 1;", 1);
    }

    static void promise03EverySignNeedsBothSides() {
        for (String sign : new String[] {"+", "-", "*", "/", "<", "<=", "=", "<>", ">=", ">", "and", "or"}) {
            Told.fault("law eat ^" + sign + " 1;", 1);
            Told.fault("law eat 1 " + sign + "^;", 1);
            Told.fault("law eat 1 " + sign + " ^);", 1);
            Told.fault("law eat (^" + sign + " 1);", 1);
            Told.fault("law eat 1 " + sign + " ^* 1;", 1);
            Told.fault("law eat 1 " + sign + " ^or 1;", 1);
        }
        Told.fault("law eat^;", 1);
        Told.fault("law eat 1 ^row;", 1);
        Told.fault("law eat row ^1;", 1);
        Told.fault("law eat (1)^(1);", 1);
        Told.fault("law eat 1^(1);", 1);
        Told.fault("law eat (1)^1;", 1);
    }

    static void promise03WhatBindsMore() {
        Told.of("law eat 1 or 1 and 0;").ask("law 0 -> 1");
        Told.of("law eat 0 and 0 or 1;").ask("law 0 -> 1");
        Told.of("law eat not 0 and 0;").ask("law 0 -> 0");
        Told.of("law eat not 0 or 1;").ask("law 0 -> 1");
        Told.of("law eat not 2 = 3;").ask("law 0 -> 1");
        Told.of("law eat 1 + 1 < 1 + 2;").ask("law 0 -> 1");
        Told.of("law eat 2 + 3 * 4 - 6 / 2;").ask("law 0 -> 11");
        Told.of("law eat 9 - 4 - 3;").ask("law 0 -> 2");
        Told.of("law eat 8 / 4 / 2;").ask("law 0 -> 1");
        Told.of("law eat 7 / 2 * 2;").ask("law 0 -> 6");
        Told.of("law eat 9 - 4 + 3;").ask("law 0 -> 8");
    }

    static void promise03NamesOfE() {
        for (String word : LANGUAGE) {
            if ("stacks vowel row col day left".contains(word)) {
                Told.of("law eat " + word + ";").ask("count 6 -> 1");
            } else if (!word.equals("not")) {
                Told.fault("law eat ^" + word + ";", 1);
            }
        }
        Told.fault("owner o 1 1;law eat ^o;", 1);
        Told.fault("law eat ^stack;", 1);
        Told.fault("law eat ^rows;", 1);
    }

    // Promise 5

    static void promise05FiveBitsEachTheFirstHighest() {
        Told.of("owner a 1 1;owner abcdef 1 1;owner zzzzzz 1 1;owner b 1 1;owner ba 1 1;").ask(
            "named 0 " + (1 << 25) + " -> 0", "named 0 " + name(1, 2, 3, 4, 5, 6) + " -> 1",
            "named 0 " + name(26, 26, 26, 26, 26, 26) + " -> 2", "named 0 " + (2 << 25) + " -> 3",
            "named 0 " + name(2, 1, 0, 0, 0, 0) + " -> 4").refuse("named 0 0 -> -1", "named 0 1 -> -1",
            "named 0 -1 -> -1", "named 0 MIN -> -1", "named 0 MAX -> -1",
            // The same letters elsewhere, with bits above, with one less, with one more.
            "named 0 " + name(0, 0, 0, 0, 0, 1) + " -> -1", "named 0 " + (1 << 25 | 1 << 30) + " -> -1",
            "named 0 " + (1 << 25 | 1 << 31) + " -> -1", "named 0 " + name(1, 2, 3, 4, 5, 0) + " -> -1",
            "named 0 " + name(1, 2, 3, 4, 5, 7) + " -> -1", "named 0 " + name(1, 0, 1, 0, 0, 0) + " -> -1",
            "named 0 " + name(2, 0, 1, 0, 0, 0) + " -> -1", "named 0 " + name(27, 0, 0, 0, 0, 0) + " -> -1");
    }

    static void promise05OwnersWordsHills() {
        int a = 1 << 25;
        int b = 2 << 25;
        int f = 6 << 25;
        Told.of(WORDS + "hill b all;owner x 1 1;owner b 1 1;wash g 1;sign h g;").ask("named 0 " + b + " -> 1",
            "named 1 " + a + " -> 0", "named 1 " + b + " -> 1", "named 1 " + f + " -> 5", "named 2 " + b + " -> 0")
            .refuse("named 2 " + a + " -> -1", "named 0 " + a + " -> -1", "named 1 " + (7 << 25) + " -> -1",
                "named 1 " + (8 << 25) + " -> -1", "named 3 " + b + " -> -1", "named 3 " + (7 << 25) + " -> -1",
                "named 4 " + (8 << 25) + " -> -1", "named -1 " + b + " -> -1", "named MIN " + b + " -> -1",
                "named MAX " + b + " -> -1");
    }

    static void promise05NotOfTheTextAhead() {
        int a = 1 << 25;
        Told.of("owner a 1 1;word a 1;hill a all;").ask("named 0 " + a + " -> 0").feed("purse 1;").ask("text 8 -> 1")
            .refuse("named 0 " + a + " -> -1", "named 1 " + a + " -> -1", "named 2 " + a + " -> -1");
    }

    private static int name(int... letters) {
        int name = 0;
        for (int letter : letters) {
            name = name << 5 | letter;
        }
        return name;
    }
}
