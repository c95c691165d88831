/** Promises 1 to 5: a new object, the TAPE, the TEXT with its limits and FAULTS, names. */
public final class TextTest {
    public static void main(String[] args) {
        newObject();
        tape();
        texts();
        names();
        limits();
        tokens();
        tooMuch();
        toldAlready();
        unknown();
        expressions();
        Told.end("TextTest");
    }

    private static void newObject() {
        new Told("new object").ask("count 0 -> 4", "count 1 -> 3", "count 2 -> 0", "count 6 -> 0", "count 7 -> 0",
            "count 8 -> 100", "count 9 -> 0", "count 10 -> 0", "count 11 -> 0", "count 12 -> 0", "count 16 -> 0",
            "fault 0 -> 0", "fault 1 -> -1", "back -> -1", "undo -> -1", "text 1 -> -2", "text 0 -> 0");
    }

    private static void tape() {
        Told full = new Told("feed");
        for (int i = 1; i <= 35; i++) {
            full.ask("feed -1 -1 -1 -1 -1 -> " + 20 * i);
        }
        full.ask("feed 0 0 0 0 0 -> -1", "text 701 -> -2", "text 700 -> -1", "fault 0 -> 1", "fault 1 -> 0",
            "feed 0 0 0 0 0 -> 20");
        new Told("feed's order").feed("purse 7; ..").ask("text 8 -> 1", "count 8 -> 7");
    }

    private static void texts() {
        new Told("what text() leaves").feed("purse 7;").ask("text -1 -> -2", "text MIN -> -2", "text 21 -> -2",
            "fault 0 -> 0", "text 8 -> 1", "count 8 -> 7", "text 8 -> -2", "text 0 -> 0", "count 8 -> 100");
        Told.text("a FAULT leaves all", "purse 7;hill h all;glyph a 1;word a 1;").ask("stack 0 3 -> true",
            "note 0 0 1 -> 0", "known 0 -> true", "keep -> 0", "days 2 -> 2", "stack 1 4 -> true").feed("purse 8;;")
            .ask("text 9 -> -1", "fault 0 -> 1", "fault 1 -> 8", "fault 2 -> -1", "fault -1 -> -1", "count 8 -> 7",
                "count 7 -> 2", "count 10 -> 1", "count 11 -> 0", "count 12 -> 1", "look 1 0 -> 4", "text 5 -> -2",
                "fault 0 -> 1", "back -> 0", "look 0 0 -> 3");
        Told.text("a TEXT begins all anew", "hill h all;wash r 1;sign s r;").ask("stack 0 3 -> true",
            "hang 0 -> 1", "note 0 0 1 -> 0", "known 0 -> true", "keep -> 0", "days 2 -> 2", "stack 1 4 -> true")
            .feed("wash r 1;sign s r;").ask("text 18 -> 2", "fault 0 -> 0", "fault 1 -> -1", "count 7 -> 0",
                "count 9 -> 0", "count 16 -> 0", "count 10 -> 0", "count 11 -> 0", "count 12 -> 0", "back -> -1",
                "count 5 -> 0", "undo -> -1");
        new Told("a number ends with the text").feed("plain 88 1;").ask("text 7 -> -1", "fault 0 -> 1", "fault 1 -> 7");
        new Told("a word ends with the text").feed("purse 1;word abcdefg 1;").ask("text 19 -> -1", "fault 0 -> 1",
            "fault 1 -> 19");
        new Told("a sign ends with the text").feed("law eat 1<=>").ask("text 10 -> -1", "fault 0 -> 1", "fault 1 -> 10");
        Told.text("no blanks and many", "plain2\n 3;purse 007;\n\n  ").ask("count 0 -> 2", "count 1 -> 3",
            "count 8 -> 7");
    }

    private static void names() {
        // o is 15, ab is 1, 2, zzzzzz is six times 26.
        int ab = (1 << 25) + (2 << 20);
        int six = 26 << 25 | 26 << 20 | 26 << 15 | 26 << 10 | 26 << 5 | 26;
        Told.text("named", "owner o 1 1;owner ab 1 1;word zzzzzz 1;word o 1;hill ab all;").ask(
            "named 0 " + (15 << 25) + " -> 0", "named 0 " + ab + " -> 1", "named 1 " + six + " -> 0",
            "named 1 " + (15 << 25) + " -> 1", "named 2 " + ab + " -> 0", "named 2 " + (15 << 25) + " -> -1",
            "named 1 " + ab + " -> -1", "named 3 " + ab + " -> -1", "named -1 " + ab + " -> -1", "named 0 0 -> -1",
            "named 0 15 -> -1", "named 0 " + (ab | 1 << 30) + " -> -1", "named 0 MIN -> -1");
    }

    private static void limits() {
        Told.text("the most of all", "plain 8 6;owner a 0 1;owner b 99 99;owner c 1 1;owner d 1 1;owner e 1 1;"
            + "strip a 0 0 7 5;strip b 7 5 7 5;strip c 0 0 0 0;strip a 1 0 1 0;strip a 1 0 1 0;strip a 1 0 1 0;"
            + "strip a 1 0 1 0;strip a 1 0 1 0;strip a 1 0 1 0;glyph a 1;glyph b 511;glyph c 3;glyph d 4;glyph e 5;"
            + "glyph f 6;glyph g 7;glyph h 8;glyph i 9;word a 0;word b 99;word c 1;word d 1;word e 1;word f 1;").ask(
                "count 0 -> 8", "count 1 -> 6", "count 2 -> 5", "count 3 -> 9", "count 4 -> 6", "look 47 2 -> 1",
                "look 47 3 -> 99", "look 0 2 -> 2", "look 46 2 -> 0", "look 46 3 -> 0", "shape 2 -> 511");
        Told.text("the most of the rest", "hill a all;hill b low;hill c high;link a b 1;link c a 20;link b c 1;"
            + "wash a 0;wash b 9;wash c 1;wash d 1;sign a a b c d;sign b a;sign c a;sign d a;sign e a;purse 9999;"
            + "seed 99999;rain 99;").ask("count 5 -> 3", "count 15 -> 3", "count 13 -> 4", "count 14 -> 5",
                "count 8 -> 9999", "pieces 1 -> 9");
        Told.text("the least", "plain 1 1;purse 0;seed 0;rain 0;").ask("count 0 -> 1", "count 1 -> 1",
            "count 8 -> 0", "look 0 0 -> 0", "look 1 0 -> throws.IndexOutOfBoundsException");
        Told.text("one name of every kind", "owner a 1 1;word a 1;hill a all;wash a 1;sign a a;glyph a 1;").ask(
            "count 14 -> 1");
    }

    private static void tokens() {
        Told.fault(";", 1, 0);
        Told.fault("a 1;", 1, 0);
        Told.fault("eat 1;", 1, 0);
        Told.fault(" \n #", 1, 3);
        Told.fault("plain", 1, 5);
        Told.fault("plain 1  ", 1, 9);
        Told.fault("plain 1 1", 1, 9);
        Told.fault("plain 1 1 1;", 1, 10);
        Told.fault("plain 1\t1;", 1, 7);
        Told.fault("Plain 1 1;", 1, 0);
        Told.fault("plain a 1;", 1, 6);
        Told.fault("plain 1 -1;", 1, 8);
        Told.fault("word abcdefg 1;", 1, 5);
        Told.fault("glyph abcdefg 1;", 1, 6);
        Told.fault("glyph all 1;", 1, 6);
        Told.fault("word stacks 1;", 1, 5);
        Told.fault("word eat 1;", 1, 5);
        Told.fault("owner 5 1 1;", 1, 6);
        Told.fault("owner o 1;", 1, 9);
        Told.fault("hill h;", 1, 6);
        Told.fault("hill h up;", 1, 7);
        Told.fault("hill h or;", 1, 7);
        Told.fault("hill h eat;", 1, 7);
        Told.fault("wash r 1;sign s;", 1, 15);
        Told.fault("wash r 1;sign s 1;", 1, 16);
        Told.fault("wash r 1;sign s r r r r 5;", 1, 24);
        Told.fault("wash r 1;sign s r r all;", 1, 20);
        Told.fault("hill x all;link x 1;", 1, 18);
        Told.fault("hill x all;hill y all;link x y;", 1, 30);
        Told.fault("law 1;", 1, 4);
        Told.fault("law eat;", 1, 7);
        Told.fault("plain 2 2;" + (char) 233, 1, 10);
    }

    private static void tooMuch() {
        Told.fault("plain 0 1;", 2, 6);
        Told.fault("plain 9 1;", 2, 6);
        Told.fault("plain 1 0;", 2, 8);
        Told.fault("plain 1 7;", 2, 8);
        Told.fault("plain 99999999999999999999 1;", 2, 6);
        Told.fault("plain 4294967297 1;", 2, 6);
        Told.fault("owner o 100 1;", 2, 8);
        Told.fault("owner o 1 0;", 2, 10);
        Told.fault("owner o 1 100;", 2, 10);
        Told.fault("owner a 1 1;owner b 1 1;owner c 1 1;owner d 1 1;owner e 1 1;owner;", 2, 60);
        Told.fault("owner o 1 1;strip o 4 0 4 0;", 2, 20);
        Told.fault("owner o 1 1;strip o 0 3 4 0;", 2, 22);
        Told.fault("owner o 1 1;strip o 1 1 0 1;", 2, 24);
        Told.fault("owner o 1 1;strip o 1 1 4 1;", 2, 24);
        Told.fault("owner o 1 1;strip o 1 1 1 0;", 2, 26);
        Told.fault("owner o 1 1;strip o 1 1 1 3;", 2, 26);
        Told.fault("plain 1 1;owner o 1 1;strip o 1 0 1 0;", 2, 30);
        Told.fault("owner o 1 1;" + "strip o 0 0 0 0;".repeat(9) + "strip", 2, 156);
        Told.fault("glyph ab 1;", 2, 6);
        Told.fault("glyph a 0;", 2, 8);
        Told.fault("glyph a 512;", 2, 8);
        Told.fault("glyph a 1;glyph b 2;glyph c 3;glyph d 4;glyph e 5;glyph f 6;glyph g 7;glyph h 8;glyph i 9;glyph #",
            2, 90);
        Told.fault("word a 100;", 2, 7);
        Told.fault("word a 1;word b 1;word c 1;word d 1;word e 1;word f 1;word f 1;", 2, 54);
        Told.fault("hill a all;hill b all;hill c all;hill d all;", 2, 33);
        Told.fault("wash r 10;", 2, 7);
        Told.fault("wash a 1;wash b 1;wash c 1;wash d 1;wash", 2, 36);
        Told.fault("wash r 1;sign s r r r r r;", 2, 24);
        Told.fault("wash r 1;sign s r r r r q;", 2, 24);
        Told.fault("wash r 1;sign a r;sign b r;sign c r;sign d r;sign e r;sign a r;", 2, 54);
        Told.fault("hill a all;hill b all;link a b 0;", 2, 31);
        Told.fault("hill a all;hill b all;link a b 21;", 2, 31);
        Told.fault("hill a all;hill b all;hill c all;link a b 1;link b c 1;link a c 1;link a b 1;", 2, 66);
        Told.fault("purse 10000;", 2, 6);
        Told.fault("seed 100000;", 2, 5);
        Told.fault("rain 100;", 2, 5);
    }

    private static void toldAlready() {
        Told.fault("plain 2 2;plain 9 9;", 3, 10);
        Told.fault("plain 2 2;owner o 1 1;strip o 0 0 0 0;plain 2 2;", 3, 38);
        Told.fault("owner o 1 1;owner o 1 1;", 3, 18);
        Told.fault("glyph a 1;glyph a 1;", 3, 16);
        Told.fault("glyph a 1;glyph b 1;", 3, 18);
        Told.fault("word a 1;word a 1;", 3, 14);
        Told.fault("hill a all;hill a low;", 3, 16);
        Told.fault("wash a 1;wash a 1;", 3, 14);
        Told.fault("wash a 1;sign s a;sign s a;", 3, 23);
        Told.fault("hill a all;hill b all;link a b 1;link a b 1;", 3, 40);
        Told.fault("hill a all;hill b all;link a b 1;link b a 1;", 3, 40);
        Told.fault("purse 1;purse 1;", 3, 8);
        Told.fault("seed 1;seed 1;", 3, 7);
        Told.fault("rain 1;rain 1;", 3, 7);
        Told.fault("law eat 1;law eat 1;", 3, 10);
    }

    private static void unknown() {
        Told.fault("strip o 0 0 0 0;", 4, 6);
        Told.fault("owner o 1 1;strip p 9 9 9 9;", 4, 18);
        Told.fault("owner o 1 1;strip o 0 0 0 0;plain 9 9;", 4, 28);
        Told.fault("sign s r;", 4, 7);
        Told.fault("wash r 1;sign s r r g;", 4, 20);
        Told.fault("link a b 1;", 4, 5);
        Told.fault("hill a all;link a b 1;", 4, 18);
        Told.fault("hill a all;link b a 1;", 4, 16);
        Told.fault("hill a all;link a a 1;", 5, 18);
        Told.fault("hill a all;link a a 99;", 5, 18);
    }

    private static void expressions() {
        Told.fault("law eat 10000;", 2, 8);
        Told.fault("law eat 1 2;", 1, 10);
        Told.fault("law eat 1 < 2 < 3;", 1, 14);
        Told.fault("law eat 1 < = 2;", 1, 12);
        Told.fault("law eat 1 = < 2;", 1, 12);
        Told.fault("law eat 1 <=> 2;", 1, 12);
        Told.fault("law eat 1 >> 2;", 1, 11);
        Told.fault("law eat -1;", 1, 8);
        Told.fault("law eat 1 + not 2;", 1, 12);
        Told.fault("law eat 1 < not 2;", 1, 12);
        Told.fault("law eat 1 not 2;", 1, 10);
        Told.fault("law eat 1 and;", 1, 13);
        Told.fault("law eat not;", 1, 11);
        Told.fault("law eat (1;", 1, 10);
        Told.fault("law eat 1);", 1, 9);
        Told.fault("law eat ();", 1, 9);
        Told.fault("law eat (1", 1, 10);
        Told.fault("law eat cow;", 1, 8);
        Told.fault("law eat eat;", 1, 8);
        Told.fault("law eat 1 ( 2;", 1, 10);
        Told.fault("law eat 1 < 2 + 3 < 4;", 1, 18);
        Told.fault("law eat " + "(".repeat(9), 2, 16);
        Told.text("eight open", "law eat " + "(".repeat(8) + "1" + ")".repeat(8) + "+(2);").ask("law 0 -> 3",
            "count 6 -> 3");
        // 32 numbers and 31 signs, and a not ahead of them: 64.
        Told.text("64 KNOTS", "law eat not 1" + "+1".repeat(31) + ";").ask("law 0 -> 0", "count 6 -> 64");
        Told.text("64 KNOTS of not", "law eat " + "not ".repeat(63) + "1;").ask("law 0 -> 0", "count 6 -> 64");
        Told.fault("law eat not 1" + "+1".repeat(31) + "+1;", 2, 75);
        Told.fault("law eat 1" + "+1".repeat(31) + "+1;", 2, 72);
        Told.fault("law eat " + "not ".repeat(65), 2, 264);
        Told.fault("law eat " + "not ".repeat(64) + "row", 2, 264);
        Told.fault("law eat " + "not ".repeat(62) + "1<1;", 2, 258);
        Told.fault("law eat 1<" + "1+".repeat(31) + "<", 1, 72);
    }
}
