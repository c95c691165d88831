/** Promises 24 to 33: WASHING, NEWS, what MAY BE and MAY STAND. */
public final class WashingTest {
    private static final String WASHING = "wash r 2;wash g 1;sign a r;sign b r g;sign c g g;sign d r r r;";
    private static final String HILLS = "hill x all;hill y low;hill z high;link x y 3;link y z 4;glyph a 1;glyph b 9;"
        + "word a 5;word b 1;";

    public static void main(String[] args) {
        hanging();
        pieces();
        meanings();
        news();
        guesses();
        Told.end("WashingTest");
    }

    private static void hanging() {
        Told.text("hang and lower", WASHING).ask("hang 0 -> 1", "hang 0 -> -1", "hang 1 -> 2", "count 16 -> 3",
            "hang 2 -> -2", "hang 3 -> -2", "hang 4 -> -1", "hang -1 -> -1", "count 12 -> 2", "lower 0 -> 1",
            "count 16 -> 2", "lower 0 -> -1", "lower 2 -> -1", "lower 4 -> -1", "lower -1 -> -1", "count 12 -> 3",
            "hang 0 -> 2", "lower 1 -> 1", "lower 0 -> 0", "count 16 -> 0");
        Told.text("days leave them hanging", WASHING).ask("hang 1 -> 1", "days 3 -> 3", "count 16 -> 2",
            "pieces 1 -> 0", "lower 1 -> 0");
    }

    private static void pieces() {
        Told.text("pieces", WASHING).ask("pieces 0 -> 2", "pieces 1 -> 1", "hang 1 -> 1", "pieces 0 -> 1",
            "pieces 1 -> 0", "pieces 2 -> -1", "pieces -1 -> -1");
        Told.text("wants", WASHING).ask("wants 0 -> 0", "wants 1 -> 0", "wants 3 -> 0", "wants 4 -> 1", "wants 8 -> 1",
            "wants 6 -> 2", "wants 15 -> 5", "wants 16 -> -1", "wants -1 -> -1", "wants MIN -> -1", "hang 1 -> 1",
            "wants 4 -> 1", "wants 2 -> 0");
    }

    private static void meanings() {
        Told.text("meant", WASHING).ask("meant 0 0 -> 15", "meant 1 0 -> 11", "meant 1 1 -> 4", "meant 2 4 -> 2",
            "meant 2 0 -> 8", "meant 3 0 -> 8", "meant 4 0 -> 0", "meant 2 5 -> 4", "meant 2 1 -> 0", "meant 1 2 -> -1",
            "meant 1 4 -> -1", "meant 0 1 -> -1", "meant 5 0 -> -1", "meant -1 0 -> -1", "meant 2 -1 -> -1",
            "meant 4 256 -> -1", "meant 4 64 -> 0", "meant 4 128 -> -1");
        Told.text("four colours", "wash a 1;wash b 1;wash c 1;wash d 1;sign s d c b a;").ask("meant 4 27 -> 1",
            "meant 3 27 -> 1", "meant 4 255 -> 0", "meant 3 63 -> 0");
        Told.text("a beginning", WASHING).ask("apart -> -2");
        Told.text("one sign", "wash r 1;sign a r r;").ask("apart -> 0");
        Told.text("none", "wash r 1;").ask("apart -> 0");
        Told.text("by one", "wash r 1;wash g 1;sign a r r;sign b g r;").ask("apart -> 1");
        Told.text("by two", "wash r 1;wash g 1;sign a r r;sign b r g;sign c g;").ask("apart -> 2");
        Told.text("by three", "wash r 1;wash g 1;sign a r r g;sign b r r r r;sign c g r;").ask("apart -> 3");
        Told.text("by four", "wash r 1;wash g 1;sign a r r r g;sign b r r r r;sign c g r;").ask("apart -> 4");
        Told.text("the same row twice", "wash r 1;sign a r r;sign b r r;").ask("apart -> -2");
    }

    private static void news() {
        Told.text("news", HILLS).ask("news 1 0 -> -2", "stack 0 9 -> true", "news 1 0 -> 0", "news 1 1 -> 0",
            "news 1 2 -> 4", "news 0 2 -> 0", "news 0 1 -> 4", "news 0 0 -> 7", "days 2 -> 2", "news 1 1 -> 0",
            "news 0 0 -> 7", "news 1 0 -> 0", "news 2 0 -> -1", "news -1 0 -> -1", "news 0 3 -> -1", "news 0 -1 -> -1");
        Told.text("only what stood as a day went by", HILLS).ask("stack 0 9 -> true", "stack 0 0 -> true",
            "news 1 0 -> -2", "days 5 -> 5", "stack 11 9 -> true", "news 1 0 -> 5", "undo -> 0", "news 1 0 -> -2",
            "stack 11 9 -> true", "days 1 -> 6", "news 1 0 -> 5", "news 1 2 -> 9", "stack 11 0 -> true",
            "news 1 0 -> 5");
        Told.text("sooner by another way", "hill x all;hill y all;hill z all;link x y 9;link y z 2;link x z 3;glyph a 1;"
            + "word a 1;law eat 0;").ask("stack 0 1 -> true", "news 0 2 -> 0");
        Told.text("from the one that reads", "hill x low;hill y all;hill z all;link x y 9;link y z 2;link x z 3;glyph a 64;"
            + "glyph b 65;glyph c 73;word c 1;law eat 0;").ask("stack 0 73 -> true", "news 0 0 -> 3");
        Told.text("no way", "hill x all;hill y low;hill z low;link x z 1;glyph b 8;glyph a 9;word a 1;").ask(
            "stack 0 9 -> true", "news 0 0 -> 0", "news 0 1 -> -2", "news 0 2 -> 1");
        Told.text("as in the image", HILLS).ask("keep -> 0", "stack 0 9 -> true", "days 1 -> 1", "news 1 0 -> 0",
            "back -> 0", "news 1 0 -> -2");
    }

    private static void guesses() {
        String script = "plain 3 2;glyph a 7;glyph b 73;glyph c 64;word ab 3;word cc 9;word ba 9;word x 99;word bbbb 50;";
        Told.text("maybe", script).ask("maybe 0 9 -> 7", "maybe 0 0 -> 0", "maybe 0 1 -> 4", "maybe 0 2 -> 4",
            "maybe 0 3 -> 7", "stack 0 64 -> true", "maybe 0 0 -> 4", "maybe 0 1 -> 4", "maybe 0 2 -> 6",
            "stack 0 1 -> true", "maybe 0 2 -> 3", "maybe 0 1 -> 0", "maybe 0 10 -> -1", "maybe 0 -1 -> -1",
            "maybe 6 0 -> -1", "maybe -1 0 -> -1", "stack 0 511 -> true", "maybe 0 9 -> 0");
        Told.text("maystand", script).ask("maystand 0 0 3 -> 7", "maystand 0 0 2 -> 2", "maystand 0 1 3 -> 7",
            "maystand 2 0 9 -> 0", "maystand 3 1 9 -> 0", "maystand 3 0 9 -> 7", "stack 1 8 -> true",
            "maystand 0 0 3 -> 1", "maystand 1 0 3 -> 4", "maystand 1 1 2 -> 0", "maystand 0 0 10 -> -1",
            "maystand 0 0 -1 -> -1", "maystand 0 2 0 -> -1", "maystand 0 -1 0 -> -1", "maystand 6 0 0 -> -1",
            "maystand -1 0 0 -> -1");
        Told.text("likeliest", script).ask("likeliest 0 0 3 -> 1", "likeliest 0 0 0 -> -2", "stack 1 8 -> true",
            "likeliest 0 0 3 -> 0", "likeliest 1 0 3 -> 2", "likeliest 2 0 9 -> -2", "likeliest 0 0 10 -> -1",
            "likeliest 0 2 0 -> -1", "likeliest 6 0 0 -> -1", "likeliest 0 0 -1 -> -1", "likeliest -1 0 0 -> -1");
        Told.text("nothing more", script).ask("stack 0 64 -> true", "stack 1 64 -> true", "maystand 0 0 0 -> 2",
            "likeliest 0 0 0 -> 1");
        Told.text("worth nothing", "glyph a 1;word a 0;").ask("likeliest 0 0 1 -> 0");
    }
}
