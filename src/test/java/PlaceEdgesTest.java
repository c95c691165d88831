import java.lang.reflect.InvocationTargetException;

/** Promises 17 to 23 and their part of ==== 3 at their limits: CHEAPEST, CROSSED, LIFE, PAYS, OWED, SHARED, SUMMER. */
public final class PlaceEdgesTest {
    private static final String NOTHING = " -> " + Integer.MIN_VALUE;
    private static final String PLAIN = "plain 4 2;owner o 3 2;strip o 2 0 3 1;glyph a 7;glyph b 73;glyph c 64;"
        + "word ab 10;word ba 5;word ax 1;hill h all;hill l low;purse 30;";
    private static final String[] DAYS_TO_891 = {"days 99 -> 99", "days 99 -> 198", "days 99 -> 297", "days 99 -> 396",
        "days 99 -> 495", "days 99 -> 594", "days 99 -> 693", "days 99 -> 792", "days 99 -> 891"};

    public static void main(String[] args) throws InvocationTargetException, IllegalAccessException {
        Edges.run(PlaceEdgesTest.class);
    }

    // Promise 17

    static void promise17NoSuchWordOrWhat() {
        Told.of(PLAIN).ask("cheapest 0 0 -> 6", "cheapest 0 2 -> 0", "cheapest 1 1 -> 0").refuse("cheapest -1 0 -> -1",
            "cheapest 3 0 -> -1", "cheapest MIN 0 -> -1", "cheapest MAX 0 -> -1", "cheapest 0 -1 -> -1",
            "cheapest 0 3 -> -1", "cheapest 0 MIN -> -1", "cheapest 0 MAX -> -1", "cheapest 2 3 -> -1");
    }

    static void promise17ThereIsNone() {
        Told.of(PLAIN).refuse("cheapest 2 0 -> -2", "cheapest 2 1 -> -2", "cheapest 2 2 -> -2");
        Told.of("plain 2 2;glyph a 1;word aa 1;word aaa 1;").ask("cheapest 0 0 -> 2").refuse("cheapest 1 0 -> -2").ask(
            "stack 0 2 -> true", "cheapest 0 0 -> 2", "cheapest 0 1 -> 1", "cheapest 0 2 -> 1", "stack 3 2 -> true")
            .refuse("cheapest 0 0 -> -2", "cheapest 0 1 -> -2", "cheapest 0 2 -> -2");
    }

    static void promise17OfSeveralTheFirst() {
        Told.of("plain 2 2;glyph a 1;word aa 1;word a 1;").ask("cheapest 0 0 -> 2", "cheapest 0 1 -> 0", "cheapest 0 2 -> 0",
            "cheapest 1 1 -> 0", "cheapest 1 2 -> 0", "stack 1 2 -> true", "cheapest 0 1 -> 0", "cheapest 0 2 -> 1",
            "stack 0 2 -> true", "cheapest 0 1 -> 2", "cheapest 0 2 -> 0", "cheapest 1 1 -> 2");
        // A later PLACE only if it is cheaper by one at least.
        Told.of("plain 3 1;owner o 1 9;owner z 0 9;strip o 1 0 1 0;glyph a 1;word a 1;").ask("cheapest 0 1 -> 0");
        Told.of("plain 3 1;owner z 0 9;strip z 2 0 2 0;glyph a 1;word a 1;").ask("cheapest 0 0 -> 0", "cheapest 0 1 -> 2",
            "stack 0 1 -> true", "cheapest 0 1 -> 0");
    }

    static void promise17TheLastPlaceOfThePlain() {
        Told hay = Told.of("plain 8 6;glyph a 1;glyph b 2;word ab 1;").ask("cheapest 0 1 -> 0");
        hay.ask("stack 46 1 -> true", "cheapest 0 0 -> 1", "cheapest 0 1 -> 46", "cheapest 0 2 -> 0");
        hay.ask("stack 46 0 -> true", "stack 47 2 -> true", "stack 46 4 -> true", "cheapest 0 0 -> 1", "cheapest 0 1 -> 39",
            "cheapest 0 2 -> 1");
    }

    static void promise17ThePurseIsntAsked() {
        Told.of("glyph a 7;word a 1;purse 0;").ask("cheapest 0 0 -> 3", "cheapest 0 1 -> 0");
    }

    // Promise 18

    static void promise18NoSuchWordsOrAlike() {
        Told.of(PLAIN).ask("crossed 0 1 0 -> 9", "crossed 1 0 2 -> 1").refuse("crossed 0 0 0 -> -1", "crossed 2 2 0 -> -1",
            "crossed -1 0 0 -> -1", "crossed 0 -1 0 -> -1", "crossed 3 0 0 -> -1", "crossed 0 3 0 -> -1",
            "crossed MIN 0 0 -> -1", "crossed 0 MAX 0 -> -1", "crossed 0 1 -1 -> -1", "crossed 0 1 3 -> -1",
            "crossed 0 1 MIN -> -1", "crossed 0 1 MAX -> -1", "crossed 0 2 3 -> -1");
    }

    static void promise18TheyCantBe() {
        Told.of(PLAIN).refuse("crossed 0 2 0 -> -2", "crossed 2 0 1 -> -2", "crossed 0 2 2 -> -2");
        Told.of("plain 3 3;glyph a 1;glyph b 2;word aa 1;word bb 1;word abb 1;word baa 1;word aaaa 1;").refuse(
            "crossed 0 1 0 -> -2", "crossed 0 4 0 -> -2", "crossed 4 0 0 -> -2").ask("crossed 0 2 0 -> 4",
            "crossed 2 3 0 -> 5");
        // Across needs the columns, down the rows.
        Told.of("plain 3 2;glyph a 1;word aaa 1;word aa 1;").ask("crossed 0 1 0 -> 4").refuse("crossed 1 0 0 -> -2");
    }

    static void promise18TheFieldInBothIsPaidOnce() {
        // Crossing at the first letters, at the last ones, and at the last one of the first with the first one of the other.
        Told.of("plain 3 3;glyph a 1;glyph b 2;glyph c 4;word ab 1;word ac 1;").ask("crossed 0 1 0 -> 3",
            "crossed 0 1 1 -> 0", "crossed 0 1 2 -> 0");
        Told.of("plain 3 3;glyph a 1;glyph b 2;glyph c 4;word ba 1;word ca 1;").ask("crossed 0 1 0 -> 3",
            "crossed 0 1 1 -> 3", "crossed 0 1 2 -> 1");
        Told.of("plain 3 3;glyph a 1;glyph b 2;glyph c 4;word ba 1;word ac 1;").ask("crossed 0 1 0 -> 3",
            "crossed 0 1 1 -> 0", "crossed 0 1 2 -> 1");
        Told.of("plain 1 1;glyph a 1;word a 1;word aa 1;").refuse("crossed 0 1 0 -> -2", "crossed 1 0 0 -> -2");
        Told.of("plain 2 1;glyph a 1;word a 1;word aa 1;").ask("crossed 1 0 0 -> 2", "crossed 1 0 1 -> 0",
            "crossed 1 0 2 -> 0").refuse("crossed 0 1 0 -> -2");
    }

    static void promise18OfSeveralTheFirst() {
        // Two FIELDS of the first can be crossed; the first one down is that of the lower number.
        Told.of("plain 3 3;glyph a 1;word aaa 1;word aa 1;").ask("crossed 0 1 0 -> 4", "crossed 0 1 1 -> 0",
            "crossed 0 1 2 -> 0");
        // A later PLACE, if it is cheaper: two stacks are there already.
        Told.of("plain 3 3;glyph a 1;word aaa 1;word aa 1;").ask("stack 4 1 -> true", "stack 5 1 -> true",
            "crossed 0 1 0 -> 2", "crossed 0 1 1 -> 3", "crossed 0 1 2 -> 0");
        Told.of("plain 3 3;glyph a 1;word aaa 1;word aa 1;").ask("stack 8 1 -> true", "crossed 0 1 0 -> 3",
            "crossed 0 1 1 -> 3", "crossed 0 1 2 -> 5");
    }

    static void promise18ForNothing() {
        Told.of("plain 2 2;glyph a 1;glyph b 2;word ab 1;word ba 1;").ask("stack 0 1 -> true", "stack 1 2 -> true",
            "crossed 0 1 0 -> 1", "stack 3 1 -> true", "crossed 0 1 0 -> 0", "crossed 0 1 1 -> 0", "crossed 0 1 2 -> 1");
        // Of several for nothing the first, too.
        Told.of("plain 3 1;glyph a 1;word aa 1;word a 1;").ask("stack 0 1 -> true", "stack 1 1 -> true", "stack 2 1 -> true",
            "crossed 0 1 0 -> 0", "crossed 0 1 1 -> 0", "crossed 0 1 2 -> 0");
    }

    static void promise18AtTheEdgesOfThePlain() {
        Told.of("plain 1 3;glyph a 1;glyph b 2;word a 1;word ba 1;").ask("crossed 0 1 0 -> 2", "crossed 0 1 1 -> 1",
            "crossed 0 1 2 -> 0").refuse("crossed 1 0 0 -> -2");
        // All but the last two columns and rows is taken.
        Told hay = Told.of("plain 4 3;glyph a 1;glyph b 2;glyph c 4;word ba 1;word ca 1;");
        for (int field : new int[] {0, 1, 2, 4, 5, 6, 8, 9}) {
            hay.ask("stack " + field + " 256 -> true");
        }
        hay.ask("crossed 0 1 0 -> 3", "crossed 0 1 1 -> 10", "crossed 0 1 2 -> 7");
    }

    static void promise18FieldsThatOthersStandIn() {
        Told.of("plain 2 2;glyph a 1;glyph b 2;word ab 1;word ba 1;").ask("crossed 0 1 0 -> 3", "crossed 0 1 2 -> 1",
            "stack 3 1 -> true", "crossed 0 1 0 -> 2", "stack 3 4 -> true").refuse("crossed 0 1 0 -> -2");
    }

    // Promise 19

    static void promise19NoSuchOnes() {
        Told.of(PLAIN).ask("life 0 0 0 0 -> 1", "life 1 0 1 1 -> 3").refuse("life -1 0 0 0 -> -1", "life 3 0 0 0 -> -1",
            "life MIN 0 0 0 -> -1", "life MAX 0 0 0 -> -1", "life 0 -1 0 0 -> -1", "life 0 8 0 0 -> -1",
            "life 0 MIN 0 0 -> -1", "life 0 MAX 0 0 -> -1", "life 0 0 -1 0 -> -1", "life 0 0 2 0 -> -1",
            "life 0 0 MAX 0 -> -1", "life 0 0 0 -1 -> -1", "life 0 0 0 2 -> -1", "life 0 0 0 MIN -> -1",
            "life 0 0 0 MAX -> -1", "life 2 0 0 2 -> -1");
    }

    static void promise19ItCantBeSetThere() {
        Told.of(PLAIN).ask("life 0 2 0 0 -> 1", "life 0 3 1 0 -> 1").refuse("life 0 3 0 0 -> -2", "life 0 4 1 0 -> -2",
            "life 2 0 0 0 -> -2").ask("stack 0 3 -> true").refuse("life 0 0 0 0 -> -2");
        // It stands there already, COST 0.
        Told.of("glyph a 7;word a 1;hill h all;law eat 0;").ask("stack 0 7 -> true", "life 0 0 0 0 -> 99");
        // The purse isn't asked, and nothing is SET.
        Told.of("glyph a 7;word a 1;hill h all;purse 0;law eat 0;").refuse("life 0 0 0 0 -> 99");
    }

    static void promise19NinetyNineDaysAtMost() {
        // Eaten as DAY 97, 98, 99 goes by, so that it STANDS READ as 98, 99, 100 DAYS begin.
        Told.of("plain 1 1;glyph a 1;word a 1;hill h all;law eat day = 97;").ask("life 0 0 0 0 -> 98");
        Told.of("plain 1 1;glyph a 1;word a 1;hill h all;law eat day = 98;").ask("life 0 0 0 0 -> 99");
        Told.of("plain 1 1;glyph a 1;word a 1;hill h all;law eat day = 99;").ask("life 0 0 0 0 -> 99");
        Told.of("plain 1 1;glyph a 1;word a 1;hill h all;law eat 0;").ask("life 0 0 0 0 -> 99");
    }

    static void promise19NoneBehindDay999() {
        Told.of("plain 1 1;glyph a 1;word a 1;hill h all;law eat 0;").ask(DAYS_TO_891).ask("days 9 -> 900",
            "life 0 0 0 0 -> 99", "days 1 -> 901", "life 0 0 0 0 -> 99", "days 1 -> 902", "life 0 0 0 0 -> 98",
            "days 96 -> 998", "life 0 0 0 0 -> 2", "days 1 -> 999", "life 0 0 0 0 -> 1").refuse("life 0 0 1 0 -> 1");
    }

    static void promise19TodayIsTheFirst() {
        // One stack and sheep: READ today as the DAY begins, not tomorrow.
        Told.of("plain 1 1;glyph a 1;word a 1;hill h all;").ask("life 0 0 0 0 -> 1");
        // From the low hill it is taken for another LETTER from the beginning.
        Told.of("plain 1 1;glyph b 8;glyph a 9;word a 1;hill l low;hill h all;law eat 0;").ask("life 0 0 0 0 -> 0",
            "life 0 0 0 1 -> 99");
        // From high the lowest bit alone is seen: when that is eaten it is no more.
        Told.of("plain 1 1;glyph a 9;word a 1;hill t high;hill l low;").ask("life 0 0 0 0 -> 1", "life 0 0 0 1 -> 2");
    }

    static void promise19AtEachPlace() {
        Told hay = Told.of("plain 4 3;glyph a 1;glyph b 2;glyph c 4;word abc 1;hill h all;law eat 0;");
        for (int field = 0; field < 12; field++) {
            hay.ask("life 0 " + field + " 0 0 -> " + (field % 4 < 2 ? 99 : -2),
                "life 0 " + field + " 1 0 -> " + (field < 4 ? 99 : -2));
        }
    }

    static void promise19CutOnItsDay() {
        String plain = "plain 1 1;owner o 1 3;strip o 0 0 0 0;glyph a 1;word a 1;hill h all;law eat 0;";
        Told.of(plain).ask("life 0 0 0 0 -> 4", "days 2 -> 2", "life 0 0 0 0 -> 2", "days 1 -> 3", "life 0 0 0 0 -> 1",
            "days 1 -> 4", "life 0 0 0 0 -> 99");
    }

    static void promise19OneBehindAnother() {
        // Eaten as DAY 1 goes by: what is READ then is another LETTER.
        Told.of("plain 1 1;glyph a 3;glyph b 2;word a 1;hill h all;law eat day > 0;").ask("life 0 0 0 0 -> 2");
        Told.of("plain 1 1;rain 99;glyph a 1;word a 1;hill h all;law eat 0;").ask("life 0 0 0 0 -> 99");
    }

    // Promise 20

    static void promise20NoSuchHillOrWhat() {
        Told.of(PLAIN).ask("pays 0 0 -> 4", "pays 1 3 -> 0").refuse("pays -1 0" + NOTHING, "pays 2 0" + NOTHING,
            "pays MIN 0" + NOTHING, "pays MAX 0" + NOTHING, "pays 0 -1" + NOTHING, "pays 0 4" + NOTHING,
            "pays 0 MIN" + NOTHING, "pays 0 MAX" + NOTHING);
    }

    static void promise20ThereIsNone() {
        Told.of("hill h all;").refuse("pays 0 0" + NOTHING);
        Told.of("glyph a 7;word x 9;hill h all;").refuse("pays 0 0" + NOTHING, "pays 0 1" + NOTHING, "pays 0 3" + NOTHING);
        Told.of("plain 1 1;glyph a 7;word aa 9;hill h all;").refuse("pays 0 0" + NOTHING);
    }

    static void promise20ForWhatThePurseHas() {
        Told.of("plain 1 1;glyph a 7;word a 9;hill h all;purse 3;").ask("pays 0 0 -> 6", "pays 0 1 -> 0", "pays 0 2 -> 0",
            "pays 0 3 -> 0");
        Told.of("plain 1 1;glyph a 7;word a 9;hill h all;purse 2;").refuse("pays 0 0" + NOTHING, "pays 0 2" + NOTHING).ask(
            "stack 0 7 -> true", "pays 0 0 -> 9");
    }

    static void promise20TheGreatestOfSeveralTheFirst() {
        Told.of("plain 2 1;glyph a 1;glyph b 2;word b 3;word a 3;hill h all;").ask("pays 0 0 -> 2", "pays 0 1 -> 0",
            "pays 0 2 -> 0", "pays 0 3 -> 0");
        Told.of("plain 2 1;glyph a 1;glyph b 2;word b 3;word a 4;hill h all;").ask("pays 0 0 -> 3", "pays 0 1 -> 1",
            "pays 0 2 -> 0", "pays 0 3 -> 0");
        // The second FIELD costs less; across is ahead of down.
        Told.of("plain 2 1;owner o 0 9;strip o 1 0 1 0;glyph a 1;word a 3;hill h all;").ask("pays 0 0 -> 3", "pays 0 2 -> 1",
            "pays 0 3 -> 0");
    }

    static void promise20DownToo() {
        Told.of("plain 1 2;glyph a 1;glyph b 2;word ab 3;hill h all;").ask("pays 0 0 -> 1", "pays 0 1 -> 0", "pays 0 2 -> 0",
            "pays 0 3 -> 1");
        Told.of("plain 2 3;owner o 0 9;strip o 1 1 1 2;glyph a 1;glyph b 2;word ab 3;hill h all;").ask("pays 0 0 -> 3",
            "pays 0 2 -> 3", "pays 0 3 -> 1");
    }

    static void promise20AcrossFromLaterFields() {
        Told.of("plain 4 1;glyph a 1;glyph b 2;word ab 3;hill h all;law eat 0;").ask("stack 0 256 -> true",
            "pays 0 0 -> 295", "pays 0 2 -> 1", "pays 0 3 -> 0", "stack 1 256 -> true", "pays 0 2 -> 2", "pays 0 3 -> 0",
            "stack 2 256 -> true").refuse("pays 0 0" + NOTHING);
    }

    static void promise20ALossIsAnswered() {
        Told.of("plain 1 1;glyph a 511;word a 0;hill h all;").ask("pays 0 0 -> -9", "pays 0 1 -> 0");
        // Not READ at all from there: LIFE 0.
        Told.of("plain 1 1;glyph b 8;glyph a 9;word a 99;hill l low;").ask("pays 0 0 -> -2");
        Told.of("plain 1 1;owner o 99 9;strip o 0 0 0 0;glyph a 511;word a 1;hill h all;purse 9999;").ask("pays 0 0 -> -890");
        Told.of("plain 1 1;glyph a 1;word a 1;hill h all;").ask("pays 0 0 -> 0", "pays 0 1 -> 0");
    }

    static void promise20TheLongestLifeOfTheWorthiest() {
        Told.of("plain 1 1;glyph a 1;word a 99;hill h all;law eat 0;").ask("pays 0 0 -> 9800");
        Told.of("plain 1 1;glyph a 1;word a 99;hill h all;law eat 0;").ask(DAYS_TO_891).ask("days 99 -> 990",
            "days 9 -> 999", "pays 0 0 -> 98");
        // A worthier WORD or a cheaper PLACE behind one that lives as long.
        Told.of("plain 2 1;owner o 0 9;strip o 1 0 1 0;glyph a 1;glyph b 2;word a 50;word b 99;hill h all;law eat 0;").ask(
            "pays 0 0 -> 9800", "pays 0 1 -> 1", "pays 0 2 -> 0");
        Told.of("plain 2 1;glyph a 1;glyph b 2;word a 1;word b 2;hill h all;").ask(DAYS_TO_891).ask("days 99 -> 990",
            "days 8 -> 998", "pays 0 0 -> 1", "pays 0 1 -> 1", "days 1 -> 999", "pays 0 0 -> 1", "pays 0 1 -> 1");
        Told.of("plain 2 1;glyph a 3;glyph b 6;word a 1;word b 2;hill h all;law eat day < 999;").ask(DAYS_TO_891).ask(
            "days 99 -> 990", "days 9 -> 999", "pays 0 0 -> 0", "pays 0 1 -> 1");
    }

    // Promise 21

    static void promise21NoSuchWordOrOwner() {
        Told.of(PLAIN).ask("owed 0 0 -> 6", "owed 2 0 -> -3").refuse("owed -1 0 -> -1", "owed 3 0 -> -1",
            "owed MIN 0 -> -1", "owed MAX 0 -> -1", "owed 0 -1 -> -1", "owed 0 1 -> -1", "owed 0 MIN -> -1",
            "owed 0 MAX -> -1", "owed 3 1 -> -1");
        Told.of("owner a 1 1;owner b 1 1;owner c 1 1;owner d 1 1;owner e 1 1;glyph a 1;word a 1;").ask("owed 0 4 -> 0")
            .refuse("owed 0 5 -> -1");
    }

    static void promise21WithoutTheOwnerItCantBeSet() {
        Told.of("plain 2 1;owner o 9 9;strip o 1 0 1 0;glyph a 1;word aa 1;word a 1;").refuse("owed 0 0 -> -2").ask(
            "owed 1 0 -> 1", "stack 0 2 -> true").refuse("owed 1 0 -> -2");
        Told.of("plain 2 1;owner o 9 9;strip o 0 0 1 0;glyph a 1;word aa 1;").refuse("owed 0 0 -> -2").ask(
            "stack 0 1 -> true", "stack 1 1 -> true").refuse("owed 0 0 -> -2");
    }

    static void promise21WithNeither() {
        Told.of("plain 2 1;owner o 9 9;strip o 1 0 1 0;glyph a 1;word aa 1;word ax 1;word aaa 1;").refuse("owed 1 0 -> -3",
            "owed 2 0 -> -3").ask("owed 0 0 -> -2", "stack 0 2 -> true").refuse("owed 0 0 -> -3");
    }

    static void promise21AtThePriceOf0() {
        // With the owner's field for nothing 1 stack is paid, without it 2.
        Told.of("plain 3 1;owner o 99 9;strip o 2 0 2 0;glyph a 1;word aa 1;").ask("owed 0 0 -> 1", "look 2 3 -> 99",
            "cost 0 1 0 -> 100");
        Told.of("plain 3 1;owner o 0 9;strip o 2 0 2 0;glyph a 1;word aa 1;").ask("owed 0 0 -> 1");
        // For nothing without the owner too.
        Told.of("plain 2 1;owner o 5 9;strip o 1 0 1 0;glyph a 1;word a 1;").ask("stack 0 1 -> true", "owed 0 0 -> 0");
        // An owner without FIELDS is worth nothing.
        Told.of("plain 3 1;owner o 5 9;glyph a 1;word aa 1;").ask("owed 0 0 -> 0");
        Told.of("plain 3 1;owner o 5 9;owner p 7 9;strip o 0 0 0 0;strip p 1 0 1 0;glyph a 511;word a 1;").ask(
            "owed 0 0 -> 9", "owed 0 1 -> 9", "stack 2 1 -> true", "owed 0 0 -> 63", "owed 0 1 -> 45");
    }

    // Promise 22

    static void promise22NoSuchWordsOrAlike() {
        Told.of(PLAIN).ask("shared 0 1 0 -> 9", "shared 0 1 6 -> 5").refuse("shared 0 0 0 -> -1", "shared 2 2 0 -> -1",
            "shared -1 0 0 -> -1", "shared 0 -1 0 -> -1", "shared 3 0 0 -> -1", "shared 0 3 0 -> -1",
            "shared MIN 0 0 -> -1", "shared 0 MAX 0 -> -1", "shared 0 1 -1 -> -1", "shared 0 1 7 -> -1",
            "shared 0 1 MIN -> -1", "shared 0 1 MAX -> -1", "shared 0 2 7 -> -1");
    }

    static void promise22TheyCantBe() {
        for (int what = 0; what <= 6; what++) {
            Told.of(PLAIN).refuse("shared 0 2 " + what + " -> -2", "shared 2 1 " + what + " -> -2");
        }
        // Each alone can be SET, but not both: there is one FIELD.
        Told.of("plain 1 1;glyph a 1;glyph b 2;word a 1;word b 1;").ask("cheapest 0 0 -> 1", "cheapest 1 0 -> 1").refuse(
            "shared 0 1 0 -> -2", "shared 0 1 5 -> -2", "shared 1 0 6 -> -2");
        Told.of("plain 2 1;glyph a 1;glyph b 2;word a 1;word b 1;").ask("shared 0 1 0 -> 2");
        Told.of("plain 3 1;glyph a 1;glyph b 2;word ab 1;word ba 1;").ask("shared 0 1 0 -> 3", "shared 0 1 1 -> 0",
            "shared 0 1 2 -> 1", "shared 0 1 3 -> 0", "shared 0 1 4 -> 0");
        Told.of("plain 2 1;glyph a 1;glyph b 2;word ab 1;word ba 1;").refuse("shared 0 1 0 -> -2");
    }

    static void promise22AlikeInFieldsThatBothHave() {
        // One FIELD in both, two FIELDS in both, all of the second one within the first one.
        Told.of("plain 4 1;glyph a 1;glyph b 2;glyph c 4;word ab 1;word bc 1;").ask("shared 0 1 0 -> 3", "shared 0 1 2 -> 1");
        Told.of("plain 4 1;glyph a 1;glyph b 2;glyph c 4;word abc 1;word bca 1;").ask("shared 0 1 0 -> 4",
            "shared 0 1 2 -> 1");
        Told.of("plain 4 1;glyph a 1;glyph b 2;glyph c 4;word abc 1;word bc 1;").ask("shared 0 1 0 -> 3",
            "shared 0 1 1 -> 0", "shared 0 1 2 -> 1");
        Told.of("plain 3 1;glyph a 1;glyph b 2;word aa 1;word ab 1;").ask("shared 0 1 0 -> 3", "shared 0 1 1 -> 0",
            "shared 0 1 2 -> 1");
        // Nothing in both and nothing saved.
        Told.of("plain 4 1;glyph a 1;glyph b 2;word aa 1;word bb 1;").ask("shared 0 1 0 -> 4", "shared 0 1 5 -> 2",
            "shared 0 1 6 -> 2");
    }

    static void promise22HalfOfWhatTheySaveIsCut() {
        // 1, 2 and 3 saved: half of it is 0, 1 and 1.
        Told.of("plain 4 1;glyph a 1;glyph b 16;word ab 1;word ba 1;").ask("shared 0 1 0 -> 3", "shared 0 1 5 -> 2",
            "shared 0 1 6 -> 2");
        Told.of("plain 3 1;glyph a 1;glyph b 24;word ab 1;word ba 1;").ask("shared 0 1 0 -> 4", "shared 0 1 1 -> 0",
            "shared 0 1 5 -> 2", "shared 0 1 6 -> 2");
        Told.of("plain 3 1;glyph a 1;glyph b 56;word ab 1;word ba 1;").ask("shared 0 1 0 -> 5", "shared 0 1 5 -> 3",
            "shared 0 1 6 -> 3");
        Told.of("plain 3 1;glyph a 1;glyph b 56;word abb 1;word b 1;").ask("shared 0 1 0 -> 7", "shared 0 1 5 -> 6",
            "shared 0 1 6 -> 2");
    }

    static void promise22OfSeveralTheFirst() {
        Told.of("plain 2 2;glyph a 1;glyph b 2;word a 1;word b 1;").ask("shared 0 1 1 -> 0", "shared 0 1 3 -> 0",
            "shared 0 1 2 -> 1", "shared 0 1 4 -> 0", "shared 1 0 1 -> 0", "shared 1 0 2 -> 1");
        Told.of("plain 2 2;glyph a 1;glyph b 2;word ab 1;word ba 1;").ask("shared 0 1 0 -> 3", "shared 0 1 1 -> 0",
            "shared 0 1 3 -> 0", "shared 0 1 2 -> 1", "shared 0 1 4 -> 1");
        Told.of("plain 2 2;glyph a 1;glyph b 2;word ab 1;word ba 1;").ask("stack 2 1 -> true", "stack 3 2 -> true",
            "shared 0 1 0 -> 1", "shared 0 1 1 -> 2", "shared 0 1 3 -> 0", "shared 0 1 2 -> 0", "shared 0 1 4 -> 1");
    }

    static void promise22EachWayAndPlace() {
        // Down and down, across and down, down and across; the second one at the very first PLACE.
        Told.of("plain 1 3;glyph a 1;glyph b 2;word ab 1;word ba 1;").ask("shared 0 1 0 -> 3", "shared 0 1 1 -> 0",
            "shared 0 1 2 -> 1", "shared 0 1 3 -> 1", "shared 0 1 4 -> 1");
        Told.of("plain 2 1;glyph a 1;glyph b 2;word b 1;word ab 1;").ask("shared 0 1 0 -> 2", "shared 0 1 1 -> 1",
            "shared 0 1 2 -> 0", "shared 0 1 3 -> 0", "shared 0 1 4 -> 0");
        Told.of("plain 2 3;glyph a 1;glyph b 2;glyph c 4;word abc 1;word bc 1;").ask("shared 0 1 0 -> 3", "shared 0 1 1 -> 0",
            "shared 0 1 2 -> 2", "shared 0 1 3 -> 1", "shared 0 1 4 -> 1");
        Told.of("plain 2 3;glyph a 1;glyph b 2;glyph c 4;word abc 1;word ba 1;").ask("shared 0 1 0 -> 4", "shared 0 1 1 -> 0",
            "shared 0 1 2 -> 2", "shared 0 1 3 -> 1", "shared 0 1 4 -> 0");
    }

    static void promise22ForNothing() {
        Told.of("plain 2 1;glyph a 1;glyph b 2;word a 1;word b 1;").ask("stack 0 2 -> true", "stack 1 1 -> true",
            "shared 0 1 0 -> 0", "shared 0 1 1 -> 1", "shared 0 1 2 -> 0", "shared 0 1 5 -> 0", "shared 0 1 6 -> 0");
        Told.of("plain 4 1;glyph a 1;glyph b 2;word a 1;word b 1;").ask("stack 0 2 -> true", "stack 1 1 -> true",
            "stack 2 2 -> true", "stack 3 1 -> true", "shared 0 1 0 -> 0", "shared 0 1 1 -> 1", "shared 0 1 2 -> 0");
    }

    static void promise22ThePurseIsntAsked() {
        Told.of("plain 2 1;glyph a 1;glyph b 2;word a 1;word b 1;purse 0;").refuse("shared 0 1 0 -> 2");
    }

    // Promise 23

    static void promise23NoSuchHillOrWhat() {
        Told.of(PLAIN).ask("summer 0 1 1 0 -> 10", "summer 1 1 1 0 -> 10").refuse("summer -1 1 1 0 -> -1",
            "summer 2 1 1 0 -> -1", "summer MIN 1 1 0 -> -1", "summer MAX 1 1 0 -> -1", "summer 0 1 1 -1 -> -1",
            "summer 0 1 1 5 -> -1", "summer 0 1 1 MIN -> -1", "summer 0 1 1 MAX -> -1");
    }

    static void promise23OneToFourWords() {
        String words = "glyph a 1;word a 1;word aa 1;word aaa 1;word aaaa 1;word b 1;word c 1;hill h all;law eat 0;";
        Told.of(words).ask("summer 0 1 1 0 -> 1", "summer 0 15 4 0 -> 10", "summer 0 60 1 1 -> 2", "summer 0 32 1 0 -> 0",
            "summer 0 32 1 1 -> 5").refuse("summer 0 0 1 0 -> -1", "summer 0 31 1 0 -> -1", "summer 0 63 1 0 -> -1",
            "summer 0 62 1 0 -> -1", "summer 0 64 1 0 -> -1", "summer 0 65 1 0 -> -1", "summer 0 -1 1 0 -> -1",
            "summer 0 MIN 1 0 -> -1", "summer 0 MAX 1 0 -> -1");
        Told.of(PLAIN).ask("summer 0 7 1 0 -> 10", "summer 0 4 1 0 -> 0").refuse("summer 0 8 1 0 -> -1",
            "summer 0 9 1 0 -> -1");
        Told.of("hill h all;").refuse("summer 0 0 1 0 -> -1", "summer 0 1 1 0 -> -1");
    }

    static void promise23DaysFrom1To30() {
        Told.of("glyph a 1;word a 2;hill h all;law eat 0;").ask("summer 0 1 1 0 -> 2", "summer 0 1 30 0 -> 60").refuse(
            "summer 0 1 0 0 -> -1", "summer 0 1 31 0 -> -1", "summer 0 1 -1 0 -> -1", "summer 0 1 MIN 0 -> -1",
            "summer 0 1 MAX 0 -> -1");
    }

    static void promise23ThereAreNoSoMany() {
        String words = "glyph a 1;word a 1;word aa 1;word aaa 1;word aaaa 1;hill h all;law eat 0;";
        Told.of(words).ask("summer 0 1 9 1 -> 0").refuse("summer 0 1 9 2 -> -2", "summer 0 1 9 3 -> -2",
            "summer 0 1 9 4 -> -2").ask("summer 0 6 9 2 -> 2").refuse("summer 0 6 9 3 -> -2", "summer 0 6 9 4 -> -2").ask(
            "summer 0 7 9 3 -> 2").refuse("summer 0 7 9 4 -> -2").ask("summer 0 15 9 4 -> 3").refuse(
            "summer 0 15 9 5 -> -1", "summer 0 15 31 4 -> -1", "summer 0 1 0 2 -> -1");
    }

    static void promise23OfSeveralOrdersTheFirst() {
        Told.of("glyph a 1;glyph b 2;glyph c 4;word c 1;word b 1;word a 1;hill h all;law eat 0;").ask("summer 0 7 9 0 -> 24",
            "summer 0 7 9 1 -> 0", "summer 0 7 9 2 -> 1", "summer 0 7 9 3 -> 2");
        // Worth more, had a DAY longer: the last one goes first, the other two by numbers.
        Told.of("glyph a 1;glyph b 2;glyph c 4;word c 1;word b 1;word a 2;hill h all;law eat 0;").ask("summer 0 7 9 0 -> 33",
            "summer 0 7 9 1 -> 2", "summer 0 7 9 2 -> 0", "summer 0 7 9 3 -> 1");
        // Nothing can be SET: 0, by numbers.
        Told.of("word x 9;word y 9;hill h all;").ask("summer 0 3 9 0 -> 0", "summer 0 3 9 1 -> 0", "summer 0 3 9 2 -> 1");
    }

    static void promise23OneThatCantBeSetIsnt() {
        // One FIELD: the second WORD finds it taken on its DAY and isn't SET later.
        Told.of("plain 1 1;glyph a 1;glyph b 2;word a 1;word b 5;hill h all;law eat 0;").ask("summer 0 3 4 0 -> 20",
            "summer 0 3 4 1 -> 1", "summer 0 3 4 2 -> 0");
        // Eaten by then: both are had for a DAY each.
        Told.of("plain 1 1;glyph a 1;glyph b 2;word a 1;word b 5;hill h all;").ask("summer 0 3 4 0 -> 6",
            "summer 0 3 4 1 -> 0", "summer 0 3 4 2 -> 1");
    }

    static void promise23AtEachPlace() {
        Told.of("plain 1 2;glyph a 1;glyph b 2;word ab 3;hill h all;law eat 0;").ask("summer 0 1 2 0 -> 6");
        Told.of("plain 2 3;owner o 0 9;strip o 1 1 1 2;glyph a 1;glyph b 2;word ab 3;hill h all;law eat 1 - col;").ask(
            "summer 0 1 9 0 -> 27");
        Told.of("plain 4 1;glyph a 1;glyph b 2;word ab 3;hill h all;law eat 0;").ask("stack 0 256 -> true",
            "summer 0 1 2 0 -> 6", "stack 1 256 -> true", "summer 0 1 2 0 -> 6", "stack 2 256 -> true",
            "summer 0 1 2 0 -> 0");
    }

    static void promise23ThePurseIsntAskedNorPaid() {
        Told.of("plain 1 1;glyph a 511;word a 1;hill h all;law eat 0;purse 0;").refuse("summer 0 1 3 0 -> 3");
    }

    static void promise23OnlyWhereItWasSet() {
        // It stands elsewhere too, at COST 0 there: SET there, and had once.
        Told.of("plain 2 1;glyph a 1;word a 3;hill h all;law eat 0;").ask("stack 1 1 -> true", "stack 0 1 -> true",
            "summer 0 1 2 0 -> 6");
        Told.of("plain 2 1;owner o 0 1;strip o 0 0 0 0;glyph a 1;word a 3;hill h all;law eat 0;").ask("stack 1 1 -> true",
            "summer 0 1 9 0 -> 6");
    }

    static void promise23BehindDay999() {
        // The document stops LIFE, days and tried there, not a SUMMER.
        Told.of("plain 1 1;glyph a 1;word a 1;hill h all;law eat 0;").ask(DAYS_TO_891).ask("days 99 -> 990", "days 9 -> 999",
            "summer 0 1 1 0 -> 1", "summer 0 1 30 0 -> 30");
    }
}
