/** Promises 17 to 23: CHEAPEST, CROSSED, LIFE, PAYS, OWED, SHARED, SUMMER. */
public final class PlacesTest {
    private static final String PLAIN = "plain 4 2;owner o 3 2;strip o 2 0 3 1;glyph a 7;glyph b 73;glyph c 64;"
        + "word ab 10;word ba 5;hill h all;hill l low;purse 30;";

    public static void main(String[] args) {
        cheapest();
        crossed();
        life();
        pays();
        owed();
        shared();
        summer();
        Told.end("PlacesTest");
    }

    private static void cheapest() {
        Told.text("cheapest", PLAIN).ask("cheapest 0 0 -> 6", "cheapest 0 1 -> 0", "cheapest 0 2 -> 0",
            "stack 1 64 -> true", "cheapest 0 0 -> 6", "cheapest 0 1 -> 0", "cheapest 0 2 -> 1", "stack 0 1 -> true",
            "cheapest 0 0 -> 6", "cheapest 0 1 -> 4", "cheapest 0 2 -> 0", "stack 7 73 -> true", "cheapest 0 0 -> 6",
            "stack 6 7 -> true", "cheapest 0 0 -> 0", "cheapest 0 1 -> 6", "cheapest 0 3 -> -1", "cheapest 0 -1 -> -1",
            "cheapest 2 0 -> -1", "cheapest -1 0 -> -1");
        Told.text("no place", "plain 2 1;glyph a 1;word aaa 1;word x 1;word aa 1;").ask("cheapest 0 0 -> -2",
            "cheapest 1 1 -> -2", "cheapest 2 2 -> 0", "stack 0 2 -> true", "cheapest 2 0 -> -2");
        Told.text("dear by owners", "plain 3 1;owner o 0 9;strip o 1 0 2 0;glyph a 3;word aa 1;purse 0;").ask(
            "cheapest 0 0 -> 0", "cheapest 0 1 -> 1");
    }

    private static void crossed() {
        Told.text("crossed", PLAIN).ask("crossed 0 1 0 -> 9", "crossed 0 1 1 -> 0", "crossed 0 1 2 -> 1",
            "crossed 1 0 0 -> 9", "crossed 1 0 1 -> 0", "crossed 1 0 2 -> 1", "crossed 0 0 0 -> -1",
            "crossed 0 2 0 -> -1", "crossed -1 0 0 -> -1", "crossed 0 1 3 -> -1", "crossed 0 1 -1 -> -1",
            "stack 5 64 -> true", "crossed 0 1 0 -> 21", "crossed 0 1 1 -> 1", "crossed 0 1 2 -> 2");
        Told.text("no letter in both", "glyph a 1;glyph b 2;word aa 1;word bb 1;word a 1;word ba 1;").ask(
            "crossed 0 1 0 -> -2", "crossed 2 0 0 -> 2", "crossed 2 0 1 -> 0", "crossed 2 0 2 -> 0",
            "crossed 0 2 0 -> 2", "crossed 0 3 0 -> 3", "crossed 0 3 1 -> 4", "crossed 0 3 2 -> 0");
        Told.text("no room", "plain 4 1;glyph a 1;word aa 1;word aaa 1;word a 1;").ask("crossed 0 1 0 -> -2",
            "crossed 1 2 0 -> 3", "crossed 2 1 0 -> -2");
    }

    private static void life() {
        Told.text("life", PLAIN).ask("life 0 0 0 0 -> 1", "life 0 0 0 1 -> 1", "life 0 3 0 0 -> -2", "life 0 8 0 0 -> -1",
            "life 2 0 0 0 -> -1", "life 0 0 2 0 -> -1", "life 0 0 0 2 -> -1", "life 0 0 0 -1 -> -1",
            "stack 0 511 -> true", "life 0 1 0 0 -> 3", "life 0 5 0 0 -> 3", "life 0 4 0 0 -> 10",
            "life 0 0 0 0 -> -2", "count 9 -> 9", "count 8 -> 30");
        Told.text("taken for another from the first", "glyph a 64;glyph b 72;word b 1;hill h all;hill l low;law eat 0;")
            .ask("life 0 0 0 0 -> 99", "life 0 0 0 1 -> 0", "days 99 -> 99", "days 99 -> 198", "days 99 -> 297",
                "days 99 -> 396", "days 99 -> 495", "days 99 -> 594", "days 99 -> 693", "days 99 -> 792",
                "days 99 -> 891", "days 10 -> 901", "life 0 0 0 0 -> 99", "days 1 -> 902", "life 0 0 0 0 -> 98",
                "days 97 -> 999", "life 0 0 0 0 -> 1");
        Told.text("no rain in it", "plain 1 1;glyph a 1;word a 1;hill h all;law eat 0;rain 99;").ask(
            "life 0 0 0 0 -> 99");
        Told.text("for more than the purse has", "glyph a 7;word a 1;hill h all;purse 0;law eat 0;").ask(
            "life 0 0 0 0 -> 99");
    }

    private static void pays() {
        Told.text("pays", PLAIN).ask("pays 0 0 -> 4", "pays 0 1 -> 0", "pays 0 2 -> 0", "pays 0 3 -> 0",
            "pays 1 0 -> 9", "pays 1 1 -> 1", "pays 2 0 -> -2147483648", "pays -1 0 -> -2147483648", "pays 0 4 -> -2147483648",
            "pays 0 -1 -> -2147483648", "stack 0 511 -> true", "pays 0 0 -> 94", "pays 0 2 -> 1", "pays 0 3 -> 1");
        Told.text("none", "glyph a 7;word x 1;word a 9;hill h all;purse 2;").ask("pays 0 0 -> -2147483648");
        Told.text("a loss", "glyph a 1;glyph b 7;word b 0;word a 0;hill h all;").ask("pays 0 0 -> -1", "pays 0 1 -> 1",
            "pays 0 2 -> 0", "pays 0 3 -> 0");
        Told late = Told.text("pays on the last day", "glyph a 1;glyph b 2;word a 1;word b 5;hill h all;");
        for (int day = 111; day <= 999; day += 111) {
            late.ask("days 99 -> " + (day - 12), "days 12 -> " + day);
        }
        late.ask("pays 0 0 -> 4", "pays 0 1 -> 1");
        Told.text("what the purse has not", "plain 2 1;owner o 9 9;strip o 0 0 0 0;glyph a 1;word a 2;hill h all;"
            + "purse 8;law eat 0;").ask("pays 0 0 -> 197", "pays 0 2 -> 1", "stack 1 2 -> true",
            "pays 0 0 -> -2147483648");
    }

    private static void owed() {
        Told.text("owed", PLAIN + "word aaaa 1;word x 1;").ask("owed 0 0 -> 6", "owed 1 0 -> 6", "owed 2 0 -> -2",
            "owed 3 0 -> -3", "owed 4 0 -> -1", "owed -1 0 -> -1", "owed 0 1 -> -1", "owed 0 -1 -> -1",
            "stack 0 7 -> true", "stack 1 73 -> true", "owed 0 0 -> 0");
        Told.text("fields that are there can't be used either", "plain 2 1;owner o 5 9;owner p 7 9;strip o 0 0 0 0;"
            + "glyph a 3;word a 1;").ask("owed 0 0 -> 2", "owed 0 1 -> 0", "stack 0 3 -> true", "owed 0 0 -> 2",
            "owed 0 1 -> 0", "stack 1 1 -> true", "owed 0 0 -> -2", "stack 0 1 -> true", "owed 0 0 -> -3");
    }

    private static void shared() {
        Told.text("shared", PLAIN).ask("shared 0 1 0 -> 9", "shared 0 1 1 -> 0", "shared 0 1 2 -> 1",
            "shared 0 1 3 -> 0", "shared 0 1 4 -> 1", "shared 0 1 5 -> 5", "shared 0 1 6 -> 5", "shared 0 1 7 -> -1",
            "shared 0 1 -1 -> -1", "shared 0 0 0 -> -1", "shared 0 2 0 -> -1", "shared -1 0 0 -> -1");
        Told.text("one within the other", "plain 3 1;glyph a 1;glyph b 2;word ab 1;word b 1;").ask("shared 0 1 0 -> 2",
            "shared 0 1 1 -> 0", "shared 0 1 2 -> 1", "shared 0 1 4 -> 0", "shared 0 1 5 -> 2", "shared 0 1 6 -> 1");
        Told.text("nothing shared", "plain 2 1;glyph a 1;glyph b 6;word a 1;word b 1;word x 1;word ab 1;").ask(
            "shared 0 1 0 -> 3", "shared 0 1 1 -> 0", "shared 0 1 2 -> 1", "shared 1 0 1 -> 0", "shared 0 1 5 -> 1",
            "shared 0 1 6 -> 2", "shared 0 2 0 -> -2", "shared 2 0 5 -> -2", "stack 0 1 -> true",
            "shared 0 1 0 -> 2", "stack 0 4 -> true", "shared 0 1 0 -> -2", "shared 3 0 0 -> -2");
        // Alone each costs 1 on the field of nobody; together one of them has to take that for 9.
        Told.text("dearer together", "plain 2 1;owner o 9 9;strip o 1 0 1 0;glyph a 1;glyph b 2;word a 1;word b 1;").ask(
            "shared 0 1 0 -> 10", "shared 0 1 5 -> 5", "shared 0 1 6 -> 5");
        Told.text("dearer by an odd number", "plain 2 1;owner o 4 9;strip o 1 0 1 0;glyph a 1;glyph b 2;word a 1;word b 1;")
            .ask("shared 0 1 0 -> 5", "shared 0 1 5 -> 2", "shared 0 1 6 -> 2");
    }

    private static void summer() {
        Told.text("summer", PLAIN).ask("summer 0 3 2 0 -> 15", "summer 0 3 2 1 -> 0", "summer 0 3 2 2 -> 1",
            "summer 0 3 2 3 -> -2", "summer 0 3 2 4 -> -2", "summer 0 1 1 0 -> 10", "summer 0 1 1 2 -> -2",
            "summer 0 3 1 0 -> 10", "summer 0 3 1 2 -> 1", "summer 0 2 1 1 -> 1", "summer 0 0 1 0 -> -1",
            "summer 0 4 1 0 -> -1", "summer 0 -1 1 0 -> -1", "summer 0 3 0 0 -> -1", "summer 0 3 31 0 -> -1",
            "summer 0 3 30 5 -> -1", "summer 0 3 30 -1 -> -1", "summer 2 3 1 0 -> -1", "summer -1 3 1 0 -> -1",
            "count 7 -> 0", "count 9 -> 0", "count 8 -> 30");
        Told.text("five words", "glyph a 1;word a 1;word aa 1;word aaa 1;word aaaa 1;word b 1;hill h all;law eat 0;")
            .ask("summer 0 31 1 0 -> -1", "summer 0 15 4 0 -> 10", "summer 0 15 4 1 -> 0", "summer 0 15 4 2 -> 1",
                "summer 0 15 4 3 -> 2", "summer 0 15 4 4 -> 3", "summer 0 30 3 0 -> 6", "summer 0 30 3 4 -> 4",
                "summer 0 16 9 0 -> 0", "summer 0 16 9 1 -> 4");
        // The worthier one first, as it is had a day longer; what is only there already isn't had.
        Told.text("the order that is worth more", "plain 2 1;glyph a 1;glyph b 2;word a 1;word b 3;hill h all;law eat 0;"
            + "purse 0;").ask("summer 0 3 3 0 -> 11", "summer 0 3 3 1 -> 1", "summer 0 3 3 2 -> 0",
            "summer 0 3 30 0 -> 119", "stack 0 1 -> true", "summer 0 2 1 0 -> 3", "summer 0 3 3 0 -> 11");
        Told.text("no rain in it", "plain 1 1;glyph a 1;word a 1;hill h all;law eat 0;rain 99;").ask(
            "summer 0 1 30 0 -> 30");
        Told.text("cut on its day", "plain 1 1;owner o 1 2;strip o 0 0 0 0;glyph a 1;word a 1;hill h all;law eat 0;")
            .ask("summer 0 1 30 0 -> 3", "days 1 -> 1", "summer 0 1 30 0 -> 2", "days 2 -> 3", "summer 0 1 30 0 -> 30");
    }
}
