import java.lang.reflect.InvocationTargetException;

/** Promises 24 to 33 and their part of ==== 3 at their limits: WASHING, NEWS, what MAY BE and MAY STAND. */
public final class WashEdgesTest {
    private static final String WASHING = "wash r 2;wash g 1;sign a r;sign b r g;sign c g g;sign d r r r;";
    /** From y an a is taken for a b, so that y has to be told; z has no LINK. */
    private static final String HILLS = "glyph b 8;glyph a 9;word a 1;word b 1;word x 1;hill x all;hill y low;hill z low;"
        + "link x y 3;law eat 0;";
    private static final String SCRIPT = "plain 3 2;glyph a 7;glyph b 73;glyph c 64;word ab 3;word cc 9;word ba 9;"
        + "word ax 99;word bbbb 50;";

    public static void main(String[] args) throws InvocationTargetException, IllegalAccessException {
        Edges.run(WashEdgesTest.class);
    }

    // Promise 24

    static void promise24NoSuchSign() {
        Told.of(WASHING).ask("hang 0 -> 1").refuse("hang -1 -> -1", "hang 4 -> -1", "hang 31 -> -1", "hang 32 -> -1",
            "hang MIN -> -1", "hang MAX -> -1");
        Told.of("wash r 9;sign a r;sign b r;sign c r;sign d r;sign e r;").ask("hang 4 -> 1", "count 16 -> 16").refuse(
            "hang 5 -> -1");
        Told.of("wash r 9;").refuse("hang 0 -> -1");
    }

    static void promise24ItHangs() {
        Told.of(WASHING).ask("hang 0 -> 1").refuse("hang 0 -> -1").ask("hang 1 -> 2").refuse("hang 0 -> -1", "hang 1 -> -1")
            .ask("lower 0 -> 1", "hang 0 -> 2");
        // That it hangs goes ahead of PIECES that aren't there.
        Told.of("wash r 1;sign a r;").ask("hang 0 -> 1").refuse("hang 0 -> -1");
    }

    static void promise24ThereArentSoManyPieces() {
        Told.of(WASHING).ask("hang 0 -> 1", "hang 1 -> 2", "pieces 0 -> 0", "pieces 1 -> 0").refuse("hang 2 -> -2",
            "hang 3 -> -2");
        Told.of(WASHING).refuse("hang 2 -> -2", "hang 3 -> -2").ask("count 12 -> 0");
        Told.of("wash r 4;sign a r r r r;sign b r;").ask("hang 0 -> 1", "pieces 0 -> 0").refuse("hang 1 -> -2");
        Told.of("wash r 3;sign a r r r r;sign b r;").refuse("hang 0 -> -2").ask("hang 1 -> 1");
        Told.of("wash r 0;sign a r;").refuse("hang 0 -> -2");
        Told.of("wash r 9;wash g 0;sign a r r r g;sign b r;").refuse("hang 0 -> -2").ask("hang 1 -> 1");
    }

    static void promise24AllThatThereAre() {
        Told.of("wash r 5;sign a r;sign b r;sign c r;sign d r;sign e r;").ask("hang 0 -> 1", "hang 1 -> 2", "hang 2 -> 3",
            "hang 3 -> 4", "hang 4 -> 5", "count 16 -> 31", "pieces 0 -> 0");
        Told.of("wash r 4;sign a r;sign b r;sign c r;sign d r;sign e r;").ask("hang 0 -> 1", "hang 1 -> 2", "hang 2 -> 3",
            "hang 3 -> 4").refuse("hang 4 -> -2").ask("lower 2 -> 3", "hang 4 -> 4").refuse("hang 2 -> -2");
    }

    // Promise 25

    static void promise25NoSuchSignOrItDoesntHang() {
        Told.of(WASHING).refuse("lower 0 -> -1", "lower 3 -> -1").ask("hang 1 -> 1").refuse("lower 0 -> -1",
            "lower -1 -> -1", "lower 4 -> -1", "lower 32 -> -1", "lower 33 -> -1", "lower MIN -> -1", "lower MAX -> -1")
            .ask("lower 1 -> 0", "count 16 -> 0").refuse("lower 1 -> -1");
        Told.of("wash r 9;sign a r;sign b r;sign c r;sign d r;sign e r;").ask("hang 4 -> 1", "hang 0 -> 2", "lower 4 -> 1",
            "count 16 -> 1").refuse("lower 5 -> -1", "lower 4 -> -1");
    }

    static void promise25ThePiecesAreLeftAgain() {
        Told.of(WASHING).ask("hang 1 -> 1", "pieces 0 -> 1", "pieces 1 -> 0", "lower 1 -> 0", "pieces 0 -> 2",
            "pieces 1 -> 1");
    }

    // Promise 26

    static void promise26NoSuchColour() {
        Told.of(WASHING).ask("pieces 0 -> 2", "pieces 1 -> 1").refuse("pieces -1 -> -1", "pieces 2 -> -1", "pieces 4 -> -1",
            "pieces MIN -> -1", "pieces MAX -> -1");
        Told.of("wash a 0;wash b 1;wash c 2;wash d 9;").ask("pieces 0 -> 0", "pieces 3 -> 9").refuse("pieces 4 -> -1");
        new Told().refuse("pieces 0 -> -1");
    }

    static void promise26FromAllDownTo0() {
        Told.of("wash r 4;sign a r r r;sign b r;").ask("pieces 0 -> 4", "hang 0 -> 1", "pieces 0 -> 1", "hang 1 -> 2",
            "pieces 0 -> 0", "lower 0 -> 1", "pieces 0 -> 3");
    }

    // Promise 27

    static void promise27NoSuchSigns() {
        Told.of(WASHING).ask("wants 0 -> 0", "wants 15 -> 5").refuse("wants -1 -> -1", "wants 16 -> -1", "wants 17 -> -1",
            "wants MIN -> -1", "wants MAX -> -1");
        new Told().ask("wants 0 -> 0").refuse("wants 1 -> -1");
        Told.of("wash r 0;sign a r;sign b r;sign c r;sign d r;sign e r;").ask("wants 31 -> 5").refuse("wants 32 -> -1");
    }

    static void promise27HowManyPiecesMore() {
        // Just enough, one too few; what is left of one COLOUR doesn't help another.
        Told.of(WASHING).ask("wants 1 -> 0", "wants 3 -> 0", "wants 8 -> 1", "wants 9 -> 2", "wants 4 -> 1", "wants 6 -> 2");
        Told.of("wash r 9;wash g 0;sign a g g g g;").ask("wants 1 -> 4");
        Told.of("wash r 0;sign a r r r r;sign b r r r r;sign c r r r r;sign d r r r r;sign e r r r r;").ask(
            "wants 31 -> 20");
        Told.of("wash r 9;sign a r r r r;sign b r r r r;sign c r;sign d r;").ask("wants 7 -> 0", "wants 15 -> 1");
    }

    static void promise27NoneElseHangs() {
        Told.of(WASHING).ask("hang 0 -> 1", "hang 1 -> 2", "wants 2 -> 0", "wants 1 -> 0", "wants 4 -> 1", "wants 0 -> 0");
    }

    // Promise 28

    static void promise28FromNoneTo4Colours() {
        Told.of(WASHING).ask("meant 0 0 -> 15", "meant 3 0 -> 8", "meant 4 0 -> 0").refuse("meant -1 0 -> -1",
            "meant 5 0 -> -1", "meant MIN 0 -> -1", "meant MAX 0 -> -1");
        Told.of("wash r 1;sign a r r r r;sign b r r r;").ask("meant 4 0 -> 1", "meant 3 0 -> 3");
        new Told().ask("meant 0 0 -> 0").refuse("meant 1 0 -> -1");
    }

    static void promise28NothingAbove() {
        Told.of("wash a 1;wash b 1;wash c 1;wash d 1;sign s d d d d;sign t a b c d;").ask("meant 1 3 -> 1", "meant 2 15 -> 1",
            "meant 3 63 -> 1", "meant 4 255 -> 1", "meant 4 228 -> 2", "meant 1 0 -> 2").refuse("meant 0 1 -> -1",
            "meant 1 4 -> -1", "meant 2 16 -> -1", "meant 3 64 -> -1", "meant 4 256 -> -1", "meant 0 -1 -> -1",
            "meant 4 -1 -> -1", "meant 4 MIN -> -1", "meant 4 MAX -> -1", "meant 0 MIN -> -1");
    }

    static void promise28NoSuchColour() {
        Told.of(WASHING).ask("meant 1 1 -> 4", "meant 4 85 -> 0").refuse("meant 1 2 -> -1", "meant 1 3 -> -1",
            "meant 2 8 -> -1", "meant 2 9 -> -1", "meant 4 128 -> -1", "meant 3 32 -> -1");
        Told.of("wash a 1;wash b 1;wash c 1;sign s c;").ask("meant 1 2 -> 1").refuse("meant 1 3 -> -1");
    }

    static void promise28WhoseRowBeginsSo() {
        // A row shorter than what is seen doesn't begin so.
        Told.of(WASHING).ask("meant 1 0 -> 11", "meant 2 0 -> 8", "meant 2 4 -> 2", "meant 2 5 -> 4", "meant 2 1 -> 0");
    }

    // Promise 29

    static void promise29FromNoneTo4Colours() {
        new Told().ask("apart -> 0");
        Told.of("wash r 1;wash g 1;sign a r;").ask("apart -> 0");
        Told.of("wash r 1;wash g 1;sign a r;sign b g;").ask("apart -> 1");
        Told.of("wash r 1;wash g 1;sign a r r;sign b r g;").ask("apart -> 2");
        Told.of("wash r 1;wash g 1;sign a r r r;sign b r r g;").ask("apart -> 3");
        Told.of("wash r 1;wash g 1;sign a r r r r;sign b r r r g;").ask("apart -> 4");
    }

    static void promise29NotBy4() {
        Told.of("wash r 1;wash g 1;sign a r r r r;sign b r r r r;").ask("apart -> -2");
        // All of one is the beginning of another.
        Told.of("wash r 1;wash g 1;sign a r;sign b r g;").ask("apart -> -2");
        Told.of("wash r 1;wash g 1;sign a r r r;sign b r r r r;sign c g;").ask("apart -> -2");
    }

    static void promise29AllItHasIfTheyAreFewer() {
        Told.of("wash r 1;wash g 1;sign a g;sign b r r r;sign c r r g;").ask("apart -> 3");
        // What hangs doesn't matter, nor how many PIECES there are.
        Told.of("wash r 0;wash g 9;sign a r;sign b g;").ask("hang 1 -> 1", "apart -> 1");
    }

    // Promise 30

    static void promise30NoSuchWordOrHill() {
        Told.of(HILLS).ask("news 0 0 -> -2", "news 2 2 -> -2").refuse("news -1 0 -> -1", "news 3 0 -> -1", "news MIN 0 -> -1",
            "news MAX 0 -> -1", "news 0 -1 -> -1", "news 0 3 -> -1", "news 0 MIN -> -1", "news 0 MAX -> -1");
    }

    static void promise30NoneHasReadIt() {
        Told.of(HILLS).refuse("news 0 0 -> -2", "news 0 1 -> -2").ask("stack 0 8 -> true").refuse("news 0 0 -> -2",
            "news 2 0 -> -2").ask("news 1 0 -> 0", "stack 0 9 -> true", "news 0 0 -> 0");
    }

    static void promise30ThereIsNoWay() {
        Told.of(HILLS).ask("stack 0 9 -> true", "news 0 0 -> 0", "news 0 1 -> 3").refuse("news 0 2 -> -2");
        Told.of("glyph b 8;glyph a 9;word a 1;hill x all;hill y low;").ask("stack 0 9 -> true", "news 0 0 -> 0").refuse(
            "news 0 1 -> -2");
    }

    static void promise30TheFirstDayOnWhichItStood() {
        // As the DAY goes by, not as it has begun and ended by call.
        Told.of(HILLS).ask("days 2 -> 2", "stack 5 9 -> true", "news 0 0 -> 2", "news 0 1 -> 5", "stack 5 0 -> true",
            "news 0 0 -> -2", "days 1 -> 3", "stack 5 9 -> true", "news 0 0 -> 3", "days 1 -> 4", "news 0 0 -> 3",
            "stack 5 0 -> true", "news 0 0 -> 3", "days 5 -> 9", "stack 5 9 -> true", "news 0 0 -> 3");
    }

    static void promise30AheadOfWhatIsCutEatenRainedOn() {
        Told.of("plain 1 1;owner o 1 1;strip o 0 0 0 0;glyph a 1;word a 1;hill h all;law eat 0;").ask("days 1 -> 1",
            "stack 0 1 -> true", "days 1 -> 2", "count 9 -> 0", "news 0 0 -> 1");
        Told.of("plain 1 1;glyph a 1;word a 1;hill h all;").ask("stack 0 1 -> true", "days 1 -> 1", "count 9 -> 0",
            "news 0 0 -> 0");
        Told.of("plain 1 1;rain 99;glyph a 1;word a 1;hill h all;law eat 0;").ask("stack 0 1 -> true", "days 1 -> 1",
            "count 9 -> 0", "news 0 0 -> 0");
        // What is left behind a DAY is READ as the next one goes by.
        Told.of("plain 1 1;glyph b 3;glyph a 2;word a 1;hill h all;").ask("stack 0 3 -> true", "news 0 0 -> -2",
            "days 2 -> 2", "count 9 -> 0", "news 0 0 -> 1");
    }

    static void promise30TheLeastOfAllWays() {
        String hills = "glyph b 8;glyph a 9;word a 1;hill x all;hill y low;hill z low;law eat 0;";
        Told.of(hills + "link x y 20;link y z 1;link z x 1;").ask("stack 0 9 -> true", "news 0 1 -> 2", "news 0 2 -> 1");
        Told.of(hills + "link x y 2;link y z 1;link z x 1;").ask("stack 0 9 -> true", "news 0 1 -> 2");
        Told.of(hills + "link x y 1;link y z 20;").ask("stack 0 9 -> true", "news 0 1 -> 1", "news 0 2 -> 21");
        Told.of(hills + "link x z 20;link y z 20;").ask("stack 0 9 -> true", "news 0 1 -> 40", "news 0 2 -> 20");
        // Its own later reading is no matter if it was told sooner, and the other way round.
        String late = "glyph b 8;glyph a 9;glyph c 73;word a 1;word b 1;hill x all;hill y low;law eat 0;";
        Told.of(late + "link x y 20;").ask("stack 0 8 -> true", "news 1 0 -> 0", "news 1 1 -> 0");
    }

    static void promise30EachWordFromEachHill() {
        // Each of six WORDS is READ from each of three HILLS on a DAY of its own; two letters, so in one PLACE.
        Told hay = Told.of("plain 2 1;glyph a 1;glyph b 2;glyph c 4;word aa 1;word ab 1;word ac 1;word ba 1;word bb 1;"
            + "word bc 1;hill x all;hill y low;hill z high;law eat 0;");
        for (int word = 0; word < 6; word++) {
            hay.ask("news " + word + " 2 -> -2", "stack 0 " + (word < 3 ? 1 : 2) + " -> " + (word % 3 == 0),
                "stack 1 " + (1 << word % 3) + " -> true", "news " + word + " 2 -> " + word, "days 1 -> " + (word + 1));
        }
        for (int word = 0; word < 6; word++) {
            hay.ask("news " + word + " 0 -> " + word, "news " + word + " 1 -> " + word, "news " + word + " 2 -> " + word);
        }
    }

    static void promise30AsInAnImage() {
        Told.of(HILLS).ask("stack 0 9 -> true", "days 1 -> 1", "keep -> 1", "stack 0 8 -> true", "days 1 -> 2",
            "news 1 0 -> 1", "news 0 0 -> 0", "back -> 1", "news 0 0 -> 0", "news 1 0 -> 3", "stack 0 0 -> true",
            "news 0 0 -> 0");
        Told.of(HILLS).ask("keep -> 0", "stack 0 9 -> true", "days 1 -> 1", "news 0 0 -> 0", "back -> 0",
            "news 0 0 -> -2");
        Told.of(HILLS).ask("stack 0 9 -> true", "days 1 -> 1", "stack 0 0 -> true", "news 0 0 -> 0", "keep -> 1",
            "days 1 -> 2", "back -> 1", "news 0 0 -> 0");
    }

    static void promise30ItMayBeToCome() {
        Told.of(HILLS).ask("stack 0 9 -> true", "news 0 1 -> 3", "days 9 -> 9", "news 0 1 -> 3");
        Told hay = Told.of("glyph b 8;glyph a 9;word a 1;hill x all;hill y low;link x y 20;law eat 0;");
        for (int day = 99; day <= 990; day += 99) {
            hay.ask("days 99 -> " + day);
        }
        hay.ask("days 9 -> 999", "stack 0 9 -> true", "news 0 0 -> 999", "news 0 1 -> 1019");
    }

    // Promise 31

    static void promise31NoSuchFieldOrNumber() {
        Told.of(SCRIPT).ask("maybe 0 0 -> 0", "maybe 5 9 -> 7").refuse("maybe -1 0 -> -1", "maybe 6 0 -> -1",
            "maybe MIN 0 -> -1", "maybe MAX 0 -> -1", "maybe 0 -1 -> -1", "maybe 0 10 -> -1", "maybe 0 MIN -> -1",
            "maybe 0 MAX -> -1");
    }

    static void promise31AllItsStacksAndNMoreAtMost() {
        // 1, 3, 3 stacks of c, a, b on an empty FIELD.
        Told.of(SCRIPT).ask("maybe 0 0 -> 0", "maybe 0 1 -> 4", "maybe 0 2 -> 4", "maybe 0 3 -> 7");
        Told.of(SCRIPT).ask("stack 0 1 -> true", "maybe 0 0 -> 0", "maybe 0 1 -> 0", "maybe 0 2 -> 3", "stack 0 3 -> true",
            "maybe 0 0 -> 0", "maybe 0 1 -> 1", "maybe 0 9 -> 1", "stack 0 7 -> true", "maybe 0 0 -> 1",
            "stack 0 15 -> true", "maybe 0 9 -> 0", "stack 0 9 -> true", "maybe 0 1 -> 2", "maybe 0 0 -> 0");
        Told.of("glyph a 511;").ask("maybe 0 8 -> 0", "maybe 0 9 -> 1");
        new Told().ask("maybe 0 9 -> 0");
        Told.of("glyph a 1;glyph b 2;glyph c 3;glyph d 4;glyph e 5;glyph f 6;glyph g 7;glyph h 8;glyph i 9;").ask(
            "maybe 0 9 -> 511", "maybe 0 1 -> 139", "stack 0 8 -> true", "maybe 0 1 -> 384");
    }

    // Promise 32

    static void promise32NoSuchFieldWayOrNumber() {
        Told.of(SCRIPT).ask("maystand 0 0 9 -> 7", "maystand 5 1 0 -> 0").refuse("maystand -1 0 0 -> -1",
            "maystand 6 0 0 -> -1", "maystand MIN 0 0 -> -1", "maystand MAX 0 0 -> -1", "maystand 0 -1 0 -> -1",
            "maystand 0 2 0 -> -1", "maystand 0 MIN 0 -> -1", "maystand 0 MAX 0 -> -1", "maystand 0 0 -1 -> -1",
            "maystand 0 0 10 -> -1", "maystand 0 0 MIN -> -1", "maystand 0 0 MAX -> -1");
    }

    static void promise32WithinThePlain() {
        Told.of(SCRIPT).ask("maystand 1 0 9 -> 7", "maystand 2 0 9 -> 0", "maystand 2 1 9 -> 7", "maystand 3 1 9 -> 0",
            "maystand 4 0 9 -> 7", "maystand 5 0 9 -> 0");
        Told.of("plain 6 6;glyph a 1;word aaaaaa 1;").ask("maystand 0 0 1 -> 1", "maystand 0 1 1 -> 1", "maystand 1 0 1 -> 0",
            "maystand 6 1 1 -> 0", "maystand 5 1 1 -> 1", "maystand 30 0 1 -> 1");
    }

    static void promise32EachLetterWithNMoreAtMost() {
        // n counts for each FIELD alone: six stacks are missing in all.
        Told.of(SCRIPT).ask("maystand 0 0 2 -> 2", "maystand 0 0 3 -> 7", "maystand 0 0 1 -> 2", "maystand 0 0 0 -> 0",
            "stack 1 73 -> true", "maystand 0 0 3 -> 1", "stack 0 7 -> true", "maystand 0 0 0 -> 1", "stack 0 3 -> true",
            "maystand 0 0 0 -> 0", "maystand 0 0 1 -> 1", "stack 0 15 -> true", "maystand 0 0 9 -> 0");
        // All six WORDS, one of them with a LETTER without GLYPH.
        Told.of("plain 1 1;glyph a 1;glyph b 2;glyph c 3;glyph d 4;glyph e 5;word a 1;word b 1;word c 1;word d 1;word e 1;"
            + "word f 1;").ask("maystand 0 0 9 -> 31");
    }

    // Promise 33

    static void promise33NoSuchFieldWayOrNumber() {
        Told.of(SCRIPT).ask("likeliest 0 0 9 -> 1", "likeliest 5 1 0 -> -2").refuse("likeliest -1 0 0 -> -1",
            "likeliest 6 0 0 -> -1", "likeliest MIN 0 0 -> -1", "likeliest MAX 0 0 -> -1", "likeliest 0 -1 0 -> -1",
            "likeliest 0 2 0 -> -1", "likeliest 0 MIN 0 -> -1", "likeliest 0 MAX 0 -> -1", "likeliest 0 0 -1 -> -1",
            "likeliest 0 0 10 -> -1", "likeliest 0 0 MIN -> -1", "likeliest 0 0 MAX -> -1");
    }

    static void promise33ThereIsNone() {
        Told.of(SCRIPT).refuse("likeliest 0 0 0 -> -2", "likeliest 2 0 9 -> -2", "likeliest 3 1 9 -> -2").ask(
            "stack 0 511 -> true").refuse("likeliest 0 0 9 -> -2").ask("likeliest 1 0 9 -> 1");
        new Told().refuse("likeliest 0 0 9 -> -2");
    }

    static void promise33TheGreatestWorthTheFirstOfSeveral() {
        Told.of(SCRIPT).ask("likeliest 0 0 3 -> 1", "stack 1 1 -> true", "likeliest 0 0 3 -> 2", "stack 0 2 -> true",
            "likeliest 0 0 3 -> 0");
        Told.of("plain 1 1;glyph a 1;glyph b 2;glyph c 4;word a 0;word b 0;").ask("likeliest 0 0 1 -> 0");
        Told.of("plain 1 1;glyph a 1;glyph b 2;glyph c 4;word a 98;word b 99;word c 99;").ask("likeliest 0 0 1 -> 1",
            "stack 0 1 -> true", "likeliest 0 0 0 -> 0");
    }
}
