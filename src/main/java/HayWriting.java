import java.util.NoSuchElementException;

/** Writing with stacks of hay on a plain, as it is read from the hills. */
public final class HayWriting {
    public static final int NONE = -1;

    private static final int CANT = -2;
    private static final int TOO_DEAR = -3;

    private static final int MOST_BYTES = 700;
    private static final int MOST_FIELDS = 48;
    private static final int MOST_OWNERS = 5;
    private static final int MOST_STRIPS = 9;
    private static final int MOST_GLYPHS = 9;
    private static final int MOST_WORDS = 6;
    private static final int MOST_HILLS = 3;
    private static final int MOST_LINKS = 3;
    private static final int MOST_COLOURS = 4;
    private static final int MOST_SIGNS = 5;
    private static final int MOST_KNOTS = 64;
    private static final int MOST_OPEN = 8;
    private static final int MOST_NOTES = 24;
    private static final int MOST_UNDONE = 20;
    private static final int MOST_LETTERS = 6;
    private static final int ROW_OF_SIGN = 4;
    private static final int LAST_LETTER = 26;
    private static final int WHOLE_SHAPE = 511;
    private static final int TOP_STACK = 256;
    private static final int LAST_DAY = 999;
    private static final int LONGEST_LIFE = 99;
    private static final int NEVER_CUT = 99;
    private static final int FAR = 1000000;
    private static final long GREATEST_VALUE = 1000000000000L;
    private static final long ERROR = Long.MIN_VALUE;

    private static final int ACROSS = 0;

    private static final int CUTTING = 1;
    private static final int EATING = 2;
    private static final int RAINING = 4;
    private static final int WHOLE_DAY = 7;
    private static final int DRY_DAY = 3;

    // TOKENS: those of the language's words are FIRST_WORD and their number in LANGUAGE.
    private static final int END = 0;
    private static final int NUMBER = 1;
    private static final int NAME = 2;
    private static final int STRANGE = 3;
    private static final int SEMICOLON = 4;
    private static final int OPEN = 5;
    private static final int CLOSE = 6;
    private static final int PLUS = 7;
    private static final int MINUS = 8;
    private static final int TIMES = 9;
    private static final int OVER = 10;
    private static final int LESS = 11;
    private static final int AT_MOST = 12;
    private static final int EQUAL = 13;
    private static final int UNLIKE = 14;
    private static final int AT_LEAST = 15;
    private static final int MORE = 16;
    private static final int FIRST_WORD = 20;
    private static final int PLAIN = 20;
    private static final int OWNER = 21;
    private static final int STRIP = 22;
    private static final int GLYPH = 23;
    private static final int WORD = 24;
    private static final int HILL = 25;
    private static final int WASH = 26;
    private static final int SIGN = 27;
    private static final int LINK = 28;
    private static final int PURSE = 29;
    private static final int SEED = 30;
    private static final int RAIN = 31;
    private static final int LAW = 32;
    private static final int EAT = 33;
    private static final int ALL = 34;
    private static final int LOW = 35;
    private static final int HIGH = 36;
    private static final int OR = 37;
    private static final int AND = 38;
    private static final int NOT = 39;
    private static final int STACKS = 40;
    private static final int LEFT = 45;
    // Six signs for each word, in the order of the numbers above.
    private static final String LANGUAGE = "plain owner strip glyph word  hill  wash  sign  link  purse seed  rain  law   eat   all   low   high  or    and   not   stacksvowel row   col   day   left  ";

    private static final int RANK_OF_NOT = 3;
    private static final int RANK_OF_COMPARING = 4;

    private final int[] tape = new int[MOST_BYTES];
    private int fed;
    private int faultKind;
    private int faultPlace = NONE;
    private final Tokens tokens = new Tokens(tape);
    private final Told told = new Told();
    private final Told draft = new Told();
    private final Reader reader = new Reader(tokens);
    private final Scene now = new Scene();
    private final Scene image = new Scene();
    private boolean kept;
    private final Past past = new Past();
    private final Notes notes = new Notes();
    private final Search search = new Search(told, now);

    public HayWriting() {
        told.clear();
        now.begin(told);
    }

    public int feed(int a, int b, int c, int d, int e) {
        if (fed + 20 > MOST_BYTES) {
            return NONE;
        }
        takeBytes(a);
        takeBytes(b);
        takeBytes(c);
        takeBytes(d);
        takeBytes(e);
        return fed;
    }

    private void takeBytes(int four) {
        for (int shift = 24; shift >= 0 && fed < MOST_BYTES; shift -= 8) {
            tape[fed] = (four >>> shift) & 255;
            fed++;
        }
    }

    public int text(int n) {
        if (n < 0 || n > fed) {
            return CANT;
        }
        fed = 0;
        tokens.split(n);
        boolean fine = reader.readInto(draft);
        faultKind = reader.fault;
        faultPlace = reader.faultPlace;
        if (!fine) {
            return NONE;
        }
        // The draft has shown that nothing is wrong, so what is told may be overwritten.
        reader.readInto(told);
        now.begin(told);
        past.forget();
        notes.clear();
        kept = false;
        return told.lines;
    }

    public int fault(int what) {
        if (what == 0) {
            return faultKind;
        }
        return what == 1 ? faultPlace : NONE;
    }

    public int named(int what, int letters) {
        switch (what) {
            case 0:
                return indexOf(told.ownerName, told.owners, letters);
            case 1:
                return indexOf(told.script.wordName, told.script.words, letters);
            case 2:
                return indexOf(told.hills.hillName, told.hills.hills, letters);
            default:
                return NONE;
        }
    }

    public int look(int field, int what) throws IndexOutOfBoundsException, NoSuchElementException {
        if (!told.hasField(field)) {
            throw new IndexOutOfBoundsException("no such field");
        }
        switch (what) {
            case 0:
                return now.shape[field];
            case 1:
                return Integer.bitCount(now.shape[field]);
            case 2:
                return told.ownerOf[field];
            case 3:
                return told.fee[field];
            case 4:
                return told.daysLeft(field, now.day);
            default:
                throw new NoSuchElementException("no such what");
        }
    }

    public int shape(int letter) {
        if (letter < 1 || letter > LAST_LETTER) {
            return NONE;
        }
        return told.script.shapeOf[letter];
    }

    public int seen(int hill, int field) {
        if (!told.hills.hasHill(hill) || !told.hasField(field)) {
            return NONE;
        }
        return told.hills.seenFrom(hill, now.shape[field]);
    }

    public int read(int hill, int field) {
        if (!told.hills.hasHill(hill) || !told.hasField(field)) {
            return NONE;
        }
        return told.hills.readFrom(hill, now.shape[field], told.script);
    }

    public int taken(int hill, int letter) {
        if (!told.hills.hasHill(hill) || letter < 1 || letter > LAST_LETTER) {
            return NONE;
        }
        return told.hills.readFrom(hill, told.script.shapeOf[letter], told.script);
    }

    public long law(int field) {
        if (!told.hasField(field)) {
            return ERROR;
        }
        return told.law.work(told, now, field);
    }

    public int cost(int word, int field, int way) {
        if (!isPlaced(word, field, way)) {
            return NONE;
        }
        return search.costOf(now, told.fee, word, field, way);
    }

    public int set(int word, int field, int way) {
        if (!isPlaced(word, field, way)) {
            return NONE;
        }
        int price = search.costOf(now, told.fee, word, field, way);
        if (price < 0) {
            return CANT;
        }
        if (price > now.purse) {
            return TOO_DEAR;
        }
        past.remember(now);
        search.put(now, word, field, way);
        now.purse -= price;
        return price;
    }

    public boolean stack(int field, int shape) {
        if (!told.hasField(field) || shape < 0 || shape > WHOLE_SHAPE || now.shape[field] == shape) {
            return false;
        }
        past.remember(now);
        now.shape[field] = shape;
        return true;
    }

    public int days(int n) {
        if (n < 0 || n > 99 || now.day + n > LAST_DAY) {
            return NONE;
        }
        for (int i = 0; i < n; i++) {
            search.writeDownReading();
            now.pass(told, WHOLE_DAY);
        }
        if (n > 0) {
            past.forget();
        }
        return now.day;
    }

    public int stands(int word, int hill) {
        if (!told.script.hasWord(word) || !told.hills.hasHill(hill)) {
            return NONE;
        }
        search.readAll(hill);
        return search.placesRead(word);
    }

    public int cheapest(int word, int what) {
        if (!told.script.hasWord(word) || what < 0 || what > 2) {
            return NONE;
        }
        int place = search.cheapestPlace(now, told.fee, word);
        if (place < 0) {
            return CANT;
        }
        if (what == 0) {
            return search.leastCost;
        }
        return what == 1 ? place / 2 : place % 2;
    }

    public int crossed(int one, int other, int what) {
        if (!areUnlike(one, other) || what < 0 || what > 2) {
            return NONE;
        }
        search.placeBoth(one, other, true);
        if (search.pairCost < 0) {
            return CANT;
        }
        if (what == 0) {
            return search.pairCost;
        }
        return what == 1 ? search.onePlace / 2 : search.otherPlace / 2;
    }

    public int life(int word, int field, int way, int hill) {
        if (!isPlaced(word, field, way) || !told.hills.hasHill(hill)) {
            return NONE;
        }
        if (search.costOf(now, told.fee, word, field, way) < 0) {
            return CANT;
        }
        return search.lifeOf(word, field, way, hill);
    }

    public int pays(int hill, int what) {
        if (!told.hills.hasHill(hill) || what < 0 || what > 3) {
            return Integer.MIN_VALUE;
        }
        search.payBest(hill);
        if (search.bestWord < 0) {
            return Integer.MIN_VALUE;
        }
        switch (what) {
            case 0:
                return search.bestPay;
            case 1:
                return search.bestWord;
            case 2:
                return search.onePlace / 2;
            default:
                return search.onePlace % 2;
        }
    }

    public int owed(int word, int owner) {
        if (!told.script.hasWord(word) || !told.hasOwner(owner)) {
            return NONE;
        }
        int free = search.leastWithFee(word, owner, 0);
        int without = search.leastWithFee(word, owner, NONE);
        if (free < 0) {
            return TOO_DEAR;
        }
        return without < 0 ? CANT : without - free;
    }

    public int shared(int one, int other, int what) {
        if (!areUnlike(one, other) || what < 0 || what > 6) {
            return NONE;
        }
        search.placeBoth(one, other, false);
        if (search.pairCost < 0) {
            return CANT;
        }
        switch (what) {
            case 0:
                return search.pairCost;
            case 1:
                return search.onePlace / 2;
            case 2:
                return search.otherPlace / 2;
            case 3:
                return search.onePlace % 2;
            case 4:
                return search.otherPlace % 2;
            case 5:
                return search.shareOf(one, other);
            default:
                return search.shareOf(other, one);
        }
    }

    public int summer(int hill, int words, int n, int what) {
        if (!told.hills.hasHill(hill) || words <= 0 || words >= 1 << told.script.words) {
            return NONE;
        }
        int many = Integer.bitCount(words);
        if (many > Search.MOST_ORDERED || n < 1 || n > 30 || what < 0 || what > Search.MOST_ORDERED) {
            return NONE;
        }
        if (what > many) {
            return CANT;
        }
        search.orderBest(hill, words, n);
        return what == 0 ? search.bestSum : search.bestOrder[what - 1];
    }

    public int hang(int sign) {
        if (!told.washing.hasSign(sign) || hangs(sign)) {
            return NONE;
        }
        if (!told.washing.hasPieces(now.hung, sign)) {
            return CANT;
        }
        past.remember(now);
        now.hung |= 1 << sign;
        return Integer.bitCount(now.hung);
    }

    public int lower(int sign) {
        if (!told.washing.hasSign(sign) || !hangs(sign)) {
            return NONE;
        }
        past.remember(now);
        now.hung &= ~(1 << sign);
        return Integer.bitCount(now.hung);
    }

    private boolean hangs(int sign) {
        return (now.hung & 1 << sign) != 0;
    }

    public int pieces(int colour) {
        if (!told.washing.hasColour(colour)) {
            return NONE;
        }
        return told.washing.leftOf(now.hung, colour);
    }

    public int wants(int signs) {
        if (signs < 0 || signs >= 1 << told.washing.signs) {
            return NONE;
        }
        return told.washing.missing(signs);
    }

    public int meant(int n, int colours) {
        if (n < 0 || n > ROW_OF_SIGN || colours < 0 || colours >= 1 << 2 * n) {
            return NONE;
        }
        for (int i = 0; i < n; i++) {
            if (!told.washing.hasColour(colours >> 2 * i & 3)) {
                return NONE;
            }
        }
        return told.washing.meantBy(n, colours);
    }

    public int apart() {
        return told.washing.fewestToTell();
    }

    public int news(int word, int hill) {
        if (!told.script.hasWord(word) || !told.hills.hasHill(hill)) {
            return NONE;
        }
        return search.knownSince(word, hill);
    }

    public int maybe(int field, int n) {
        if (!told.hasField(field) || n < 0 || n > 9) {
            return NONE;
        }
        return told.script.glyphsOver(now.shape[field], n);
    }

    public int maystand(int field, int way, int n) {
        if (!told.hasField(field) || !isWay(way) || n < 0 || n > 9) {
            return NONE;
        }
        return search.wordsOver(field, way, n);
    }

    public int likeliest(int field, int way, int n) {
        if (!told.hasField(field) || !isWay(way) || n < 0 || n > 9) {
            return NONE;
        }
        return told.script.worthiest(search.wordsOver(field, way, n));
    }

    public int note(int hill, int field, int letter) {
        if (!told.hills.hasHill(hill) || !told.hasField(field) || letter < 0 || letter > LAST_LETTER) {
            return NONE;
        }
        return notes.write(hill, field, letter, NONE);
    }

    public int strike(int note) {
        if (note < 0 || note >= notes.written) {
            return NONE;
        }
        return notes.write(NONE, NONE, NONE, note);
    }

    public boolean known(int n) {
        if (n < -1 || n > notes.written) {
            return false;
        }
        notes.knownBy = n;
        return true;
    }

    public int tales() {
        search.findTale(notes, FAR);
        return search.talesFound;
    }

    public int tale(int k, int what) {
        if (k < 0 || what < 0 || what > 2) {
            return NONE;
        }
        if (!search.findTale(notes, k)) {
            return CANT;
        }
        if (what == 0) {
            return search.bestWord;
        }
        return what == 1 ? search.onePlace / 2 : search.onePlace % 2;
    }

    public int tried(int what, int i, int n) {
        if (what < 0 || what > 3 || n < 0 || n > 99) {
            return NONE;
        }
        if (what == 3 ? !told.hasOwner(i) : i != 0) {
            return NONE;
        }
        return search.stacksAfter(what, i, n);
    }

    public int undo() {
        if (past.size == 0) {
            return NONE;
        }
        past.restore(now);
        return past.size;
    }

    public int keep() {
        image.copy(now);
        kept = true;
        return now.day;
    }

    public int back() {
        if (!kept) {
            return NONE;
        }
        now.copy(image);
        past.forget();
        return now.day;
    }

    public int count(int what) {
        switch (what) {
            case 0:
                return told.wide;
            case 1:
                return told.high;
            case 2:
                return told.owners;
            case 3:
                return told.script.glyphs;
            case 4:
                return told.script.words;
            case 5:
                return told.hills.hills;
            case 6:
                return told.law.knots;
            case 7:
                return now.day;
            case 8:
                return now.purse;
            case 9:
                return now.stacksInAll();
            case 10:
                return notes.written;
            case 11:
                return notes.knownMany();
            case 12:
                return past.size;
            case 13:
                return told.washing.colours;
            case 14:
                return told.washing.signs;
            case 15:
                return told.hills.links;
            case 16:
                return now.hung;
            default:
                return NONE;
        }
    }

    private boolean isPlaced(int word, int field, int way) {
        return told.script.hasWord(word) && told.hasField(field) && isWay(way);
    }

    private boolean areUnlike(int one, int other) {
        return one != other && told.script.hasWord(one) && told.script.hasWord(other);
    }

    private static boolean isWay(int way) {
        return way == 0 || way == 1;
    }

    private static int indexOf(int[] names, int many, int name) {
        for (int i = 0; i < many && i < names.length; i++) {
            if (names[i] == name) {
                return i;
            }
        }
        return NONE;
    }

    /** The letter at a place of a name of six times five bits; 0 behind its last one. */
    private static int letterAt(int name, int k) {
        return k < 0 || k >= MOST_LETTERS ? 0 : name >> 5 * (MOST_LETTERS - 1 - k) & 31;
    }

    /** What the TEXT tells: nothing here changes till the next TEXT. */
    private static final class Told {
        int wide;
        int high;
        int owners;
        int strips;
        int lines;
        int purse;
        int seed;
        int rain;
        long toldOnce;
        final int[] ownerName = new int[MOST_OWNERS];
        final int[] price = new int[MOST_OWNERS];
        final int[] cut = new int[MOST_OWNERS];
        final int[] ownerOf = new int[MOST_FIELDS];
        final int[] cutOn = new int[MOST_FIELDS];
        final int[] fee = new int[MOST_FIELDS];
        final Script script = new Script();
        final Hills hills = new Hills();
        final Washing washing = new Washing();
        final Law law = new Law();

        void clear() {
            wide = 4;
            high = 3;
            owners = 0;
            strips = 0;
            lines = 0;
            purse = 100;
            seed = 0;
            rain = 0;
            toldOnce = 0;
            for (int field = 0; field < MOST_FIELDS; field++) {
                ownerOf[field] = NONE;
                cutOn[field] = NONE;
                fee[field] = 1;
            }
            script.clear();
            hills.clear();
            washing.clear();
            law.knots = 0;
        }

        int fields() {
            return wide * high;
        }

        boolean hasField(int field) {
            return field >= 0 && field < wide * high && field < MOST_FIELDS;
        }

        boolean hasOwner(int owner) {
            return owner >= 0 && owner < owners && owner < MOST_OWNERS;
        }

        int daysLeft(int field, int day) {
            if (cutOn[field] < 0) {
                return NEVER_CUT;
            }
            return cutOn[field] > day ? cutOn[field] - day : 0;
        }

        void addOwner(int name, int priceOfStack, int cutDay) {
            if (owners < MOST_OWNERS) {
                ownerName[owners] = name;
                price[owners] = priceOfStack;
                cut[owners] = cutDay;
                owners++;
            }
        }

        void giveField(int x, int y, int owner) {
            int field = y * wide + x;
            if (hasField(field) && hasOwner(owner)) {
                ownerOf[field] = owner;
                cutOn[field] = cut[owner];
                fee[field] = price[owner];
            }
        }

        boolean fits(int length, int field, int way) {
            if (wide < 1 || !hasField(field)) {
                return false;
            }
            return way == ACROSS ? field % wide + length <= wide : field / wide + length <= high;
        }

        int stepOf(int way) {
            return way == ACROSS ? 1 : wide;
        }
    }

    /** GLYPHS and WORDS. */
    private static final class Script {
        int glyphs;
        int words;
        final int[] glyphLetter = new int[MOST_GLYPHS];
        final int[] glyphShape = new int[MOST_GLYPHS];
        // As long as five bits reach, so that any letter of a name is an index of it.
        final int[] shapeOf = new int[32];
        final int[] wordName = new int[MOST_WORDS];
        final int[] wordLength = new int[MOST_WORDS];
        final int[] worth = new int[MOST_WORDS];

        void clear() {
            glyphs = 0;
            words = 0;
            for (int letter = 0; letter < shapeOf.length; letter++) {
                shapeOf[letter] = 0;
            }
        }

        boolean hasWord(int word) {
            return word >= 0 && word < words && word < MOST_WORDS;
        }

        void addGlyph(int letter, int shape) {
            if (glyphs < MOST_GLYPHS) {
                glyphLetter[glyphs] = letter;
                glyphShape[glyphs] = shape;
                shapeOf[letter & 31] = shape;
                glyphs++;
            }
        }

        void addWord(int name, int value) {
            if (words >= MOST_WORDS) {
                return;
            }
            int length = 0;
            while (length < MOST_LETTERS && letterAt(name, length) != 0) {
                length++;
            }
            wordName[words] = name;
            wordLength[words] = length;
            worth[words] = value;
            words++;
        }

        int letterOf(int word, int k) {
            return letterAt(wordName[word], k);
        }

        int shapeIn(int word, int k) {
            return shapeOf[letterAt(wordName[word], k)];
        }

        boolean isVowel(int shape) {
            return shape != 0 && (shape == shapeOf[1] || shape == shapeOf[5] || shape == shapeOf[9]
                || shape == shapeOf[15] || shape == shapeOf[21]);
        }

        int glyphsOver(int shape, int more) {
            int found = 0;
            for (int glyph = 0; glyph < glyphs; glyph++) {
                if (growsInto(shape, glyphShape[glyph], more)) {
                    found |= 1 << glyph;
                }
            }
            return found;
        }

        boolean growsInto(int shape, int whole, int more) {
            return whole != 0 && (whole & shape) == shape && Integer.bitCount(whole ^ shape) <= more;
        }

        int worthiest(int among) {
            int best = CANT;
            int most = NONE;
            for (int word = 0; word < words; word++) {
                if ((among & 1 << word) != 0 && worth[word] > most) {
                    best = word;
                    most = worth[word];
                }
            }
            return best;
        }
    }

    /** HILLS and LINKS. */
    private static final class Hills {
        int hills;
        int links;
        final int[] hillName = new int[MOST_HILLS];
        final int[] sight = new int[MOST_HILLS];
        final int[] oneEnd = new int[MOST_LINKS];
        final int[] otherEnd = new int[MOST_LINKS];
        final int[] length = new int[MOST_LINKS];

        void clear() {
            hills = 0;
            links = 0;
        }

        boolean hasHill(int hill) {
            return hill >= 0 && hill < hills && hill < MOST_HILLS;
        }

        void addHill(int name, int how) {
            if (hills < MOST_HILLS) {
                hillName[hills] = name;
                sight[hills] = how;
                hills++;
            }
        }

        void addLink(int one, int other, int far) {
            if (links < MOST_LINKS) {
                oneEnd[links] = one;
                otherEnd[links] = other;
                length[links] = far;
                links++;
            }
        }

        boolean areLinked(int one, int other) {
            for (int link = 0; link < links; link++) {
                if (oneEnd[link] == one && otherEnd[link] == other || oneEnd[link] == other && otherEnd[link] == one) {
                    return true;
                }
            }
            return false;
        }

        /** A row of stacks lies three bits above the one over it. */
        int seenFrom(int hill, int shape) {
            if (sight[hill] == LOW) {
                return shape & ~(shape >> 3);
            }
            return sight[hill] == HIGH ? shape & ~(shape << 3) : shape;
        }

        int readFrom(int hill, int shape, Script script) {
            if (shape == 0) {
                return 0;
            }
            int seenShape = seenFrom(hill, shape);
            for (int glyph = 0; glyph < script.glyphs; glyph++) {
                if (seenFrom(hill, script.glyphShape[glyph]) == seenShape) {
                    return script.glyphLetter[glyph];
                }
            }
            return 0;
        }

        /** Brings each HILL's day down to what its neighbours tell; no way has more LINKS than there are. */
        void spread(int[] since) {
            for (int round = 0; round < links; round++) {
                for (int link = 0; link < links; link++) {
                    int one = oneEnd[link];
                    int other = otherEnd[link];
                    since[one] = Math.min(since[one], since[other] + length[link]);
                    since[other] = Math.min(since[other], since[one] + length[link]);
                }
            }
        }
    }

    /** COLOURS and SIGNS. */
    private static final class Washing {
        int colours;
        int signs;
        final int[] colourName = new int[MOST_COLOURS];
        final int[] pieceMany = new int[MOST_COLOURS];
        final int[] signName = new int[MOST_SIGNS];
        final int[] rowLength = new int[MOST_SIGNS];
        // Two bits for each COLOUR, the first one lowest.
        final int[] row = new int[MOST_SIGNS];

        void clear() {
            colours = 0;
            signs = 0;
        }

        boolean hasColour(int colour) {
            return colour >= 0 && colour < colours && colour < MOST_COLOURS;
        }

        boolean hasSign(int sign) {
            return sign >= 0 && sign < signs && sign < MOST_SIGNS;
        }

        void addColour(int name, int many) {
            if (colours < MOST_COLOURS) {
                colourName[colours] = name;
                pieceMany[colours] = many;
                colours++;
            }
        }

        void addSign(int name, int length, int coloursOfIt) {
            if (signs < MOST_SIGNS) {
                signName[signs] = name;
                rowLength[signs] = length;
                row[signs] = coloursOfIt;
                signs++;
            }
        }

        int needed(int some, int colour) {
            int many = 0;
            for (int sign = 0; sign < signs; sign++) {
                for (int i = 0; (some & 1 << sign) != 0 && i < rowLength[sign]; i++) {
                    if ((row[sign] >> 2 * i & 3) == colour) {
                        many++;
                    }
                }
            }
            return many;
        }

        int leftOf(int hung, int colour) {
            return pieceMany[colour] - needed(hung, colour);
        }

        boolean hasPieces(int hung, int sign) {
            for (int colour = 0; colour < colours; colour++) {
                if (leftOf(hung | 1 << sign, colour) < 0) {
                    return false;
                }
            }
            return true;
        }

        int missing(int some) {
            int many = 0;
            for (int colour = 0; colour < colours; colour++) {
                many += Math.max(0, -leftOf(some, colour));
            }
            return many;
        }

        int meantBy(int n, int coloursSeen) {
            int found = 0;
            for (int sign = 0; sign < signs; sign++) {
                if (rowLength[sign] >= n && beginning(sign, n) == coloursSeen) {
                    found |= 1 << sign;
                }
            }
            return found;
        }

        int beginning(int sign, int n) {
            return row[sign] & (1 << 2 * n) - 1;
        }

        int fewestToTell() {
            for (int n = 0; n <= ROW_OF_SIGN; n++) {
                if (areTold(n)) {
                    return n;
                }
            }
            return CANT;
        }

        private boolean areTold(int n) {
            for (int sign = 0; sign < signs; sign++) {
                int shown = Math.min(n, rowLength[sign]);
                if (meantBy(shown, beginning(sign, shown)) != 1 << sign) {
                    return false;
                }
            }
            return true;
        }
    }

    /** The E of eat, each sign behind what it joins. */
    private static final class Law {
        int knots;
        private final int[] kind = new int[MOST_KNOTS];
        private final int[] number = new int[MOST_KNOTS];
        private final int[] names = new int[LEFT - STACKS + 1];
        private final long[] pile = new long[MOST_KNOTS];

        void add(int what, int value) {
            if (knots < MOST_KNOTS) {
                kind[knots] = what;
                number[knots] = value;
                knots++;
            }
        }

        long work(Told told, Scene scene, int field) {
            lookAt(told, scene, field);
            int top = 0;
            for (int i = 0; i < knots; i++) {
                int what = kind[i];
                if (what == NUMBER) {
                    pile[top] = number[i];
                    top++;
                } else if (what >= STACKS && what <= LEFT) {
                    pile[top] = names[what - STACKS];
                    top++;
                } else if (what == NOT && top >= 1) {
                    pile[top - 1] = pile[top - 1] == 0 ? 1 : 0;
                } else if (top >= 2) {
                    top--;
                    pile[top - 1] = join(what, pile[top - 1], pile[top]);
                    if (pile[top - 1] == ERROR) {
                        return ERROR;
                    }
                }
            }
            return top == 1 ? pile[0] : ERROR;
        }

        private void lookAt(Told told, Scene scene, int field) {
            int wide = Math.max(1, told.wide);
            int shape = scene.shape[field];
            names[0] = Integer.bitCount(shape);
            names[1] = told.script.isVowel(shape) ? 1 : 0;
            names[2] = field / wide;
            names[3] = field % wide;
            names[4] = scene.day;
            names[5] = told.daysLeft(field, scene.day);
        }

        private static long join(int what, long a, long b) {
            switch (what) {
                case PLUS:
                    return bounded(a + b);
                case MINUS:
                    return bounded(a - b);
                case TIMES:
                    return product(a, b);
                case OVER:
                    return b == 0 ? ERROR : a / b;
                case LESS:
                    return a < b ? 1 : 0;
                case AT_MOST:
                    return a <= b ? 1 : 0;
                case EQUAL:
                    return a == b ? 1 : 0;
                case UNLIKE:
                    return a != b ? 1 : 0;
                case AT_LEAST:
                    return a >= b ? 1 : 0;
                case MORE:
                    return a > b ? 1 : 0;
                case AND:
                    return a != 0 && b != 0 ? 1 : 0;
                case OR:
                    return a != 0 || b != 0 ? 1 : 0;
                default:
                    return ERROR;
            }
        }

        private static long bounded(long value) {
            return value > GREATEST_VALUE || value < -GREATEST_VALUE ? ERROR : value;
        }

        /** Asked ahead of the product, which might be too long for a long. */
        private static long product(long a, long b) {
            long sizeOfA = a < 0 ? -a : a;
            long sizeOfB = b < 0 ? -b : b;
            if (sizeOfA != 0 && sizeOfB > GREATEST_VALUE / sizeOfA) {
                return ERROR;
            }
            return a * b;
        }
    }

    /** What stands on the plain on a DAY: all that an IMAGE keeps. */
    private static final class Scene {
        int day;
        int purse;
        int lastNumber;
        int hung;
        final int[] shape = new int[MOST_FIELDS];
        // By WORDS, then HILLS: the DAY on which it was READ first; NONE.
        final int[] readOn = new int[MOST_WORDS * MOST_HILLS];

        void begin(Told told) {
            day = 0;
            purse = told.purse;
            lastNumber = told.seed;
            hung = 0;
            clearFields();
            for (int i = 0; i < readOn.length; i++) {
                readOn[i] = NONE;
            }
        }

        void clearFields() {
            for (int field = 0; field < MOST_FIELDS; field++) {
                shape[field] = 0;
            }
        }

        void copy(Scene from) {
            day = from.day;
            purse = from.purse;
            lastNumber = from.lastNumber;
            hung = from.hung;
            System.arraycopy(from.shape, 0, shape, 0, shape.length);
            System.arraycopy(from.readOn, 0, readOn, 0, readOn.length);
        }

        int stacksInAll() {
            int many = 0;
            for (int field = 0; field < MOST_FIELDS; field++) {
                many += Integer.bitCount(shape[field]);
            }
            return many;
        }

        void pass(Told told, int how) {
            if ((how & CUTTING) != 0) {
                cutThoseDue(told);
            }
            if ((how & EATING) != 0) {
                eat(told);
            }
            if ((how & RAINING) != 0 && told.rain != 0) {
                rainOn(told);
            }
            day++;
        }

        private void cutThoseDue(Told told) {
            for (int field = 0; field < MOST_FIELDS; field++) {
                if (told.cutOn[field] == day) {
                    shape[field] = 0;
                }
            }
        }

        void cutOwner(Told told, int owner) {
            for (int field = 0; field < MOST_FIELDS; field++) {
                if (told.ownerOf[field] == owner) {
                    shape[field] = 0;
                }
            }
        }

        private void eat(Told told) {
            long greatest = 0;
            int eaten = NONE;
            int fields = Math.min(told.fields(), MOST_FIELDS);
            for (int field = 0; field < fields; field++) {
                if (shape[field] != 0) {
                    // An ERROR is below 0, and so as little eaten as 0.
                    long wanted = told.law.knots == 0 ? 1 : told.law.work(told, this, field);
                    if (wanted > greatest) {
                        greatest = wanted;
                        eaten = field;
                    }
                }
            }
            if (eaten >= 0) {
                shape[eaten] &= shape[eaten] - 1;
            }
        }

        private void rainOn(Told told) {
            if (nextNumber() % 100 >= told.rain) {
                return;
            }
            int fields = Math.max(1, Math.min(told.fields(), MOST_FIELDS));
            int field = nextNumber() % fields;
            int highest = TOP_STACK;
            while (highest > 0 && (shape[field] & highest) == 0) {
                highest >>= 1;
            }
            shape[field] &= ~highest;
        }

        private int nextNumber() {
            lastNumber = (int) (lastNumber * 1103515245L + 12345L & Integer.MAX_VALUE);
            return lastNumber / 65536;
        }
    }

    /** The TEXT cut into TOKENS, with END behind the last one. */
    private static final class Tokens {
        final int[] kind = new int[MOST_BYTES + 1];
        final int[] value = new int[MOST_BYTES + 1];
        final int[] place = new int[MOST_BYTES + 1];
        private final int[] bytes;
        private int end;
        private int at;

        Tokens(int[] bytes) {
            this.bytes = bytes;
        }

        void split(int n) {
            end = Math.min(n, Math.min(bytes.length, MOST_BYTES));
            at = 0;
            int many = 0;
            skipBlanks();
            while (at < end && many < MOST_BYTES) {
                place[many] = at;
                takeToken(many);
                many++;
                skipBlanks();
            }
            kind[many] = END;
            place[many] = end;
        }

        private void skipBlanks() {
            while (at < end && (bytes[at] == ' ' || bytes[at] == '\n')) {
                at++;
            }
        }

        private void takeToken(int i) {
            value[i] = 0;
            if (isDigit(bytes[at])) {
                takeNumber(i);
            } else if (isLetter(bytes[at])) {
                takeWord(i);
            } else {
                kind[i] = signAt();
            }
        }

        private void takeNumber(int i) {
            int number = 0;
            while (at < end && isDigit(bytes[at])) {
                number = Math.min(FAR, number * 10 + bytes[at] - '0');
                at++;
            }
            kind[i] = NUMBER;
            value[i] = number;
        }

        private void takeWord(int i) {
            int name = 0;
            int letters = 0;
            while (at < end && isLetter(bytes[at])) {
                if (letters < MOST_LETTERS) {
                    name |= bytes[at] - 'a' + 1 << 5 * (MOST_LETTERS - 1 - letters);
                }
                letters++;
                at++;
            }
            value[i] = name;
            kind[i] = letters > MOST_LETTERS ? STRANGE : kindOfWord(name);
        }

        private static int kindOfWord(int name) {
            for (int word = 0; word < LANGUAGE.length() / MOST_LETTERS; word++) {
                if (isLanguageWord(name, word)) {
                    return FIRST_WORD + word;
                }
            }
            return NAME;
        }

        private static boolean isLanguageWord(int name, int word) {
            for (int k = 0; k < MOST_LETTERS; k++) {
                char letter = LANGUAGE.charAt(word * MOST_LETTERS + k);
                if (letterAt(name, k) != (letter == ' ' ? 0 : letter - 'a' + 1)) {
                    return false;
                }
            }
            return true;
        }

        private int signAt() {
            int sign = bytes[at];
            int behind = at + 1 < end ? bytes[at + 1] : 0;
            at++;
            switch (sign) {
                case ';':
                    return SEMICOLON;
                case '(':
                    return OPEN;
                case ')':
                    return CLOSE;
                case '+':
                    return PLUS;
                case '-':
                    return MINUS;
                case '*':
                    return TIMES;
                case '/':
                    return OVER;
                case '=':
                    return EQUAL;
                case '<':
                    return lessAt(behind);
                case '>':
                    return moreAt(behind);
                default:
                    return STRANGE;
            }
        }

        private int lessAt(int behind) {
            if (behind == '=' || behind == '>') {
                at++;
                return behind == '=' ? AT_MOST : UNLIKE;
            }
            return LESS;
        }

        private int moreAt(int behind) {
            if (behind == '=') {
                at++;
                return AT_LEAST;
            }
            return MORE;
        }

        private static boolean isDigit(int sign) {
            return sign >= '0' && sign <= '9';
        }

        private static boolean isLetter(int sign) {
            return sign >= 'a' && sign <= 'z';
        }
    }

    /** Reads the LINES; what it answers below 0, or false, goes with a FAULT. */
    private static final class Reader {
        int fault;
        int faultPlace;
        private final Tokens tokens;
        private Told told;
        private int at;
        private int knots;
        private int open;
        private boolean valueWanted;
        // Signs of E that wait for what is to their right, and each '(' that is open.
        private final int[] waiting = new int[MOST_KNOTS + MOST_OPEN];
        private int waitingMany;

        Reader(Tokens tokens) {
            this.tokens = tokens;
        }

        boolean readInto(Told into) {
            told = into;
            told.clear();
            fault = 0;
            faultPlace = NONE;
            at = 0;
            while (told.lines < MOST_BYTES && kindHere() != END) {
                if (!readLine()) {
                    return false;
                }
                told.lines++;
            }
            return true;
        }

        private int kindHere() {
            return tokens.kind[at];
        }

        private void goOn() {
            if (at < MOST_BYTES) {
                at++;
            }
        }

        private boolean refused(int kind) {
            fault = kind;
            faultPlace = tokens.place[at];
            return false;
        }

        private int refuse(int kind) {
            refused(kind);
            return NONE;
        }

        private boolean readLine() {
            boolean fine;
            int word = kindHere();
            if (word >= OWNER && word <= LINK) {
                fine = readListed(word);
            } else if (word == PLAIN || word >= PURSE && word <= LAW) {
                fine = readOnce(word);
            } else {
                return refused(1);
            }
            if (!fine) {
                return false;
            }
            if (kindHere() != SEMICOLON) {
                return refused(1);
            }
            goOn();
            return true;
        }

        private boolean readListed(int word) {
            if (isFull(word)) {
                return refused(2);
            }
            goOn();
            switch (word) {
                case OWNER:
                    return readOwner();
                case STRIP:
                    return readStrip();
                case GLYPH:
                    return readGlyph();
                case WORD:
                    return readWord();
                case HILL:
                    return readHill();
                case WASH:
                    return readWash();
                case SIGN:
                    return readSign();
                default:
                    return readLink();
            }
        }

        private boolean isFull(int word) {
            switch (word) {
                case OWNER:
                    return told.owners >= MOST_OWNERS;
                case STRIP:
                    return told.strips >= MOST_STRIPS;
                case GLYPH:
                    return told.script.glyphs >= MOST_GLYPHS;
                case WORD:
                    return told.script.words >= MOST_WORDS;
                case HILL:
                    return told.hills.hills >= MOST_HILLS;
                case WASH:
                    return told.washing.colours >= MOST_COLOURS;
                case SIGN:
                    return told.washing.signs >= MOST_SIGNS;
                default:
                    return told.hills.links >= MOST_LINKS;
            }
        }

        private boolean readOnce(int word) {
            long bit = 1L << word;
            if ((told.toldOnce & bit) != 0) {
                return refused(3);
            }
            if (word == PLAIN && told.strips > 0) {
                return refused(4);
            }
            told.toldOnce |= bit;
            goOn();
            switch (word) {
                case PLAIN:
                    return readPlain();
                case PURSE:
                    told.purse = readNumber(0, 9999);
                    return told.purse >= 0;
                case SEED:
                    told.seed = readNumber(0, 99999);
                    return told.seed >= 0;
                case RAIN:
                    told.rain = readNumber(0, 99);
                    return told.rain >= 0;
                default:
                    return readLaw();
            }
        }

        private int readNumber(int least, int most) {
            if (kindHere() != NUMBER) {
                return refuse(1);
            }
            int number = tokens.value[at];
            if (number < least || number > most) {
                return refuse(2);
            }
            goOn();
            return number;
        }

        private int readNewName(int[] names, int many) {
            if (kindHere() != NAME) {
                return refuse(1);
            }
            int name = tokens.value[at];
            if (indexOf(names, many, name) >= 0) {
                return refuse(3);
            }
            goOn();
            return name;
        }

        private int readToldName(int[] names, int many) {
            if (kindHere() != NAME) {
                return refuse(1);
            }
            int index = indexOf(names, many, tokens.value[at]);
            if (index < 0) {
                return refuse(4);
            }
            goOn();
            return index;
        }

        private boolean readPlain() {
            int wide = readNumber(1, 8);
            if (wide < 0) {
                return false;
            }
            int high = readNumber(1, 6);
            if (high < 0) {
                return false;
            }
            told.wide = wide;
            told.high = high;
            return true;
        }

        private boolean readOwner() {
            int name = readNewName(told.ownerName, told.owners);
            if (name < 0) {
                return false;
            }
            int price = readNumber(0, 99);
            if (price < 0) {
                return false;
            }
            int cut = readNumber(1, 99);
            if (cut < 0) {
                return false;
            }
            told.addOwner(name, price, cut);
            return true;
        }

        private boolean readStrip() {
            int owner = readToldName(told.ownerName, told.owners);
            if (owner < 0) {
                return false;
            }
            int fromX = readNumber(0, told.wide - 1);
            if (fromX < 0) {
                return false;
            }
            int fromY = readNumber(0, told.high - 1);
            if (fromY < 0) {
                return false;
            }
            int toX = readNumber(fromX, told.wide - 1);
            if (toX < 0) {
                return false;
            }
            int toY = readNumber(fromY, told.high - 1);
            if (toY < 0) {
                return false;
            }
            for (int y = fromY; y <= toY; y++) {
                for (int x = fromX; x <= toX; x++) {
                    told.giveField(x, y, owner);
                }
            }
            told.strips++;
            return true;
        }

        private boolean readGlyph() {
            if (kindHere() != NAME) {
                return refused(1);
            }
            int name = tokens.value[at];
            if (letterAt(name, 1) != 0) {
                return refused(2);
            }
            int letter = letterAt(name, 0);
            if (told.script.shapeOf[letter] != 0) {
                return refused(3);
            }
            goOn();
            if (kindHere() == NUMBER && indexOf(told.script.glyphShape, told.script.glyphs, tokens.value[at]) >= 0) {
                return refused(3);
            }
            int shape = readNumber(1, WHOLE_SHAPE);
            if (shape < 0) {
                return false;
            }
            told.script.addGlyph(letter, shape);
            return true;
        }

        private boolean readWord() {
            int name = readNewName(told.script.wordName, told.script.words);
            if (name < 0) {
                return false;
            }
            int worth = readNumber(0, 99);
            if (worth < 0) {
                return false;
            }
            told.script.addWord(name, worth);
            return true;
        }

        private boolean readHill() {
            int name = readNewName(told.hills.hillName, told.hills.hills);
            if (name < 0) {
                return false;
            }
            int sight = kindHere();
            if (sight < ALL || sight > HIGH) {
                return refused(1);
            }
            goOn();
            told.hills.addHill(name, sight);
            return true;
        }

        private boolean readWash() {
            int name = readNewName(told.washing.colourName, told.washing.colours);
            if (name < 0) {
                return false;
            }
            int many = readNumber(0, 9);
            if (many < 0) {
                return false;
            }
            told.washing.addColour(name, many);
            return true;
        }

        private boolean readSign() {
            Washing washing = told.washing;
            int name = readNewName(washing.signName, washing.signs);
            if (name < 0) {
                return false;
            }
            int row = 0;
            int length = 0;
            while (length == 0 || length < ROW_OF_SIGN && kindHere() == NAME) {
                int colour = readToldName(washing.colourName, washing.colours);
                if (colour < 0) {
                    return false;
                }
                row |= colour << 2 * length;
                length++;
            }
            if (kindHere() == NAME) {
                return refused(2);
            }
            washing.addSign(name, length, row);
            return true;
        }

        private boolean readLink() {
            Hills hills = told.hills;
            int one = readToldName(hills.hillName, hills.hills);
            if (one < 0) {
                return false;
            }
            if (kindHere() != NAME) {
                return refused(1);
            }
            int other = indexOf(hills.hillName, hills.hills, tokens.value[at]);
            if (other < 0) {
                return refused(4);
            }
            if (other == one) {
                return refused(5);
            }
            if (hills.areLinked(one, other)) {
                return refused(3);
            }
            goOn();
            int length = readNumber(1, 20);
            if (length < 0) {
                return false;
            }
            hills.addLink(one, other, length);
            return true;
        }

        private boolean readLaw() {
            if (kindHere() != EAT) {
                return refused(1);
            }
            goOn();
            knots = 0;
            open = 0;
            waitingMany = 0;
            valueWanted = true;
            for (int i = 0; i < MOST_BYTES && !isLawOver(); i++) {
                boolean fine = valueWanted ? readValue() : readSignBehind();
                if (!fine) {
                    return false;
                }
                goOn();
            }
            settle(1);
            return true;
        }

        private boolean isLawOver() {
            return !valueWanted && open == 0 && kindHere() == SEMICOLON;
        }

        private boolean readValue() {
            int kind = kindHere();
            if (kind == OPEN) {
                if (open >= MOST_OPEN) {
                    return refused(2);
                }
                open++;
                return await(kind);
            }
            if (kind == NOT) {
                // Behind a comparison or a sign of arithmetic no B can stand.
                if (waitingMany > 0 && rankOf(waiting[waitingMany - 1]) > RANK_OF_NOT) {
                    return refused(1);
                }
                return isKnot() && await(kind);
            }
            if (kind != NUMBER && (kind < STACKS || kind > LEFT)) {
                return refused(1);
            }
            if (kind == NUMBER && tokens.value[at] > 9999) {
                return refused(2);
            }
            if (!isKnot()) {
                return false;
            }
            told.law.add(kind, tokens.value[at]);
            valueWanted = false;
            return true;
        }

        private boolean readSignBehind() {
            int kind = kindHere();
            if (kind == CLOSE && open > 0) {
                settle(1);
                open--;
                waitingMany--;
                return true;
            }
            int rank = rankOf(kind);
            if (rank == 0 || rank == RANK_OF_NOT) {
                return refused(1);
            }
            boolean compares = rank == RANK_OF_COMPARING;
            settle(compares ? rank + 1 : rank);
            if (compares && waitingMany > 0 && rankOf(waiting[waitingMany - 1]) == rank) {
                return refused(1);
            }
            valueWanted = true;
            return isKnot() && await(kind);
        }

        private boolean isKnot() {
            if (knots >= MOST_KNOTS) {
                return refused(2);
            }
            knots++;
            return true;
        }

        private boolean await(int kind) {
            if (waitingMany < waiting.length) {
                waiting[waitingMany] = kind;
                waitingMany++;
            }
            return true;
        }

        /** Signs that bind at least so much have now what is to their right. */
        private void settle(int rank) {
            while (waitingMany > 0 && rankOf(waiting[waitingMany - 1]) >= rank) {
                waitingMany--;
                told.law.add(waiting[waitingMany], 0);
            }
        }

        private static int rankOf(int kind) {
            switch (kind) {
                case OR:
                    return 1;
                case AND:
                    return 2;
                case NOT:
                    return RANK_OF_NOT;
                case PLUS:
                case MINUS:
                    return 5;
                case TIMES:
                case OVER:
                    return 6;
                default:
                    return kind >= LESS && kind <= MORE ? RANK_OF_COMPARING : 0;
            }
        }
    }

    /** What was before each call that can be undone, the latest last. */
    private static final class Past {
        private static final int ROW = MOST_FIELDS + 2;
        int size;
        private final int[] rows = new int[MOST_UNDONE * ROW];

        void forget() {
            size = 0;
        }

        void remember(Scene scene) {
            if (size >= MOST_UNDONE) {
                System.arraycopy(rows, ROW, rows, 0, (MOST_UNDONE - 1) * ROW);
                size = MOST_UNDONE - 1;
            }
            int start = size * ROW;
            System.arraycopy(scene.shape, 0, rows, start, MOST_FIELDS);
            rows[start + MOST_FIELDS] = scene.purse;
            rows[start + MOST_FIELDS + 1] = scene.hung;
            size++;
        }

        void restore(Scene scene) {
            if (size < 1) {
                return;
            }
            size--;
            int start = size * ROW;
            System.arraycopy(rows, start, scene.shape, 0, MOST_FIELDS);
            scene.purse = rows[start + MOST_FIELDS];
            scene.hung = rows[start + MOST_FIELDS + 1];
        }
    }

    /** NOTES and STRIKES in one row. */
    private static final class Notes {
        int written;
        int knownBy = NONE;
        final int[] hill = new int[MOST_NOTES];
        final int[] field = new int[MOST_NOTES];
        final int[] letter = new int[MOST_NOTES];
        // Of a STRIKE, what it strikes; NONE of what was READ.
        private final int[] target = new int[MOST_NOTES];
        private final boolean[] struck = new boolean[MOST_NOTES];

        void clear() {
            written = 0;
            knownBy = NONE;
        }

        int write(int fromHill, int ofField, int asLetter, int strikes) {
            if (written >= MOST_NOTES) {
                return NONE;
            }
            hill[written] = fromHill;
            field[written] = ofField;
            letter[written] = asLetter;
            target[written] = strikes;
            written++;
            return written - 1;
        }

        int knownMany() {
            return knownBy < 0 ? written : Math.min(knownBy, written);
        }

        /** From the last one on, since only a later STRIKE can take one away. */
        void weigh() {
            for (int i = 0; i < MOST_NOTES; i++) {
                struck[i] = false;
            }
            for (int i = knownMany() - 1; i >= 0; i--) {
                if (target[i] >= 0 && target[i] < MOST_NOTES && !struck[i]) {
                    struck[target[i]] = true;
                }
            }
        }

        boolean counts(int i) {
            return target[i] < 0 && !struck[i];
        }
    }

    /** Looks for PLACES; what a search finds stands in its fields till the next one. */
    private static final class Search {
        static final int MOST_ORDERED = 4;
        int leastCost;
        int pairCost;
        int onePlace;
        int otherPlace;
        int bestWord;
        int bestPay;
        int bestSum;
        int talesFound;
        final int[] bestOrder = new int[MOST_ORDERED];
        private final Told told;
        private final Scene now;
        private final Scene trial = new Scene();
        private final int[] otherFee = new int[MOST_FIELDS];
        private final int[] letters = new int[MOST_FIELDS];
        private final int[] since = new int[MOST_HILLS];
        private final int[] chosen = new int[MOST_ORDERED];
        private final int[] order = new int[MOST_ORDERED];
        private final int[] setAt = new int[MOST_ORDERED];

        Search(Told told, Scene now) {
            this.told = told;
            this.now = now;
        }

        private int places() {
            return 2 * Math.min(told.fields(), MOST_FIELDS);
        }

        /** A fee below 0 is of a FIELD that can't be used. */
        int costOf(Scene scene, int[] fee, int word, int field, int way) {
            Script script = told.script;
            int length = script.wordLength[word];
            if (!told.fits(length, field, way)) {
                return CANT;
            }
            int step = told.stepOf(way);
            int cost = 0;
            for (int k = 0; k < length; k++) {
                int here = field + k * step;
                int wanted = script.shapeIn(word, k);
                int found = scene.shape[here];
                if (wanted == 0 || fee[here] < 0 || found != 0 && found != wanted) {
                    return CANT;
                }
                if (found == 0) {
                    cost += Integer.bitCount(wanted) * fee[here];
                }
            }
            return cost;
        }

        void put(Scene scene, int word, int field, int way) {
            int length = told.script.wordLength[word];
            if (!told.fits(length, field, way)) {
                return;
            }
            for (int k = 0; k < length; k++) {
                scene.shape[field + k * told.stepOf(way)] = told.script.shapeIn(word, k);
            }
        }

        private boolean isRead(Scene scene, int word, int place, int hill) {
            int length = told.script.wordLength[word];
            if (!told.fits(length, place / 2, place % 2)) {
                return false;
            }
            int step = told.stepOf(place % 2);
            for (int k = 0; k < length; k++) {
                int shape = scene.shape[place / 2 + k * step];
                if (told.hills.readFrom(hill, shape, told.script) != told.script.letterOf(word, k)) {
                    return false;
                }
            }
            return true;
        }

        /** Reads the whole plain at once, so that many WORDS can be looked for in it. */
        void readAll(int hill) {
            for (int field = 0; field < MOST_FIELDS; field++) {
                letters[field] = told.hills.readFrom(hill, now.shape[field], told.script);
            }
        }

        int placesRead(int word) {
            int many = 0;
            int places = places();
            for (int place = 0; place < places; place++) {
                if (isWritten(word, place / 2, place % 2)) {
                    many++;
                }
            }
            return many;
        }

        private boolean isWritten(int word, int field, int way) {
            int length = told.script.wordLength[word];
            if (!told.fits(length, field, way)) {
                return false;
            }
            int step = told.stepOf(way);
            for (int k = 0; k < length; k++) {
                if (letters[field + k * step] != told.script.letterOf(word, k)) {
                    return false;
                }
            }
            return true;
        }

        void writeDownReading() {
            for (int hill = 0; hill < told.hills.hills; hill++) {
                readAll(hill);
                for (int word = 0; word < told.script.words; word++) {
                    int i = word * MOST_HILLS + hill;
                    if (now.readOn[i] < 0 && placesRead(word) > 0) {
                        now.readOn[i] = now.day;
                    }
                }
            }
        }

        int knownSince(int word, int hill) {
            for (int from = 0; from < MOST_HILLS; from++) {
                since[from] = from < told.hills.hills ? readSince(word, from) : FAR;
            }
            told.hills.spread(since);
            return since[hill] >= FAR ? CANT : since[hill];
        }

        private int readSince(int word, int hill) {
            int first = now.readOn[word * MOST_HILLS + hill];
            if (first >= 0) {
                return first;
            }
            readAll(hill);
            return placesRead(word) > 0 ? now.day : FAR;
        }

        /** Answers the PLACE, with its COST in leastCost; NONE if there is none. */
        int cheapestPlace(Scene scene, int[] fee, int word) {
            int best = NONE;
            leastCost = CANT;
            int places = places();
            for (int place = 0; place < places; place++) {
                int cost = costOf(scene, fee, word, place / 2, place % 2);
                if (cost >= 0 && (best < 0 || cost < leastCost)) {
                    best = place;
                    leastCost = cost;
                }
            }
            return best;
        }

        int leastWithFee(int word, int owner, int fee) {
            for (int field = 0; field < MOST_FIELDS; field++) {
                otherFee[field] = told.ownerOf[field] == owner ? fee : told.fee[field];
            }
            cheapestPlace(now, otherFee, word);
            return leastCost;
        }

        void placeBoth(int one, int other, boolean crossing) {
            pairCost = CANT;
            int places = places();
            for (int place = 0; place < places; place++) {
                int cost = costOf(now, told.fee, one, place / 2, place % 2);
                boolean useful = cost >= 0 && (pairCost < 0 || cost < pairCost);
                if (useful && !(crossing && place % 2 != ACROSS)) {
                    trial.copy(now);
                    put(trial, one, place / 2, place % 2);
                    placeOther(one, place, cost, other, crossing);
                }
            }
        }

        /** In the trial the first WORD stands, so that FIELDS of both cost nothing more. */
        private void placeOther(int one, int place, int cost, int other, boolean crossing) {
            int places = places();
            for (int second = 0; second < places; second++) {
                if (crossing && !cross(one, place, other, second)) {
                    continue;
                }
                int more = costOf(trial, told.fee, other, second / 2, second % 2);
                if (more >= 0 && (pairCost < 0 || cost + more < pairCost)) {
                    pairCost = cost + more;
                    onePlace = place;
                    otherPlace = second;
                }
            }
        }

        private boolean cross(int one, int place, int other, int second) {
            if (second % 2 == ACROSS || told.wide < 1) {
                return false;
            }
            int right = second / 2 % told.wide - place / 2 % told.wide;
            int down = place / 2 / told.wide - second / 2 / told.wide;
            return right >= 0 && right < told.script.wordLength[one]
                && down >= 0 && down < told.script.wordLength[other];
        }

        /** Asked when placeBoth has found its PLACES. */
        int shareOf(int payer, int partner) {
            cheapestPlace(now, told.fee, partner);
            int partnerAlone = leastCost;
            cheapestPlace(now, told.fee, payer);
            int saved = leastCost + partnerAlone - pairCost;
            return leastCost - saved / 2;
        }

        int lifeOf(int word, int field, int way, int hill) {
            trial.copy(now);
            put(trial, word, field, way);
            int place = field * 2 + way;
            int life = 0;
            while (life < LONGEST_LIFE && trial.day <= LAST_DAY && isRead(trial, word, place, hill)) {
                life++;
                trial.pass(told, DRY_DAY);
            }
            return life;
        }

        void payBest(int hill) {
            bestWord = NONE;
            bestPay = Integer.MIN_VALUE;
            int places = places();
            int longest = Math.min(LONGEST_LIFE, LAST_DAY + 1 - now.day);
            for (int word = 0; word < told.script.words; word++) {
                int worth = told.script.worth[word];
                for (int place = 0; place < places; place++) {
                    int cost = costOf(now, told.fee, word, place / 2, place % 2);
                    // What can't be better even with the longest LIFE isn't worth living through.
                    if (cost < 0 || cost > now.purse || worth * longest - cost <= bestPay) {
                        continue;
                    }
                    int pay = worth * lifeOf(word, place / 2, place % 2, hill) - cost;
                    if (pay > bestPay) {
                        bestPay = pay;
                        bestWord = word;
                        onePlace = place;
                    }
                }
            }
        }

        void orderBest(int hill, int words, int n) {
            int many = 0;
            for (int word = 0; word < told.script.words && many < MOST_ORDERED; word++) {
                if ((words & 1 << word) != 0) {
                    chosen[many] = word;
                    many++;
                }
            }
            int codes = 1;
            for (int i = 0; i < many; i++) {
                codes *= many;
            }
            bestSum = NONE;
            for (int code = 0; code < codes; code++) {
                if (isOrder(code, many)) {
                    int sum = sumOf(hill, many, n);
                    if (sum > bestSum) {
                        bestSum = sum;
                        System.arraycopy(order, 0, bestOrder, 0, many);
                    }
                }
            }
        }

        /** Digits of the code, the highest first, choose the WORDS; so ORDERS come by numbers. */
        private boolean isOrder(int code, int many) {
            int used = 0;
            int rest = code;
            for (int i = many - 1; i >= 0; i--) {
                int digit = rest % many;
                order[i] = chosen[digit];
                used |= 1 << digit;
                rest /= many;
            }
            return used == (1 << many) - 1;
        }

        private int sumOf(int hill, int many, int n) {
            int sum = 0;
            int begun = 0;
            trial.copy(now);
            for (int day = 0; day < n; day++) {
                if (day < many) {
                    int place = cheapestPlace(trial, told.fee, order[day]);
                    if (place >= 0) {
                        put(trial, order[day], place / 2, place % 2);
                    }
                    setAt[day] = place;
                    begun++;
                }
                for (int i = 0; i < begun; i++) {
                    if (setAt[i] >= 0 && isRead(trial, order[i], setAt[i], hill)) {
                        sum += told.script.worth[order[i]];
                    }
                }
                trial.pass(told, DRY_DAY);
            }
            return sum;
        }

        int wordsOver(int field, int way, int more) {
            int found = 0;
            for (int word = 0; word < told.script.words; word++) {
                if (isWordOver(word, field, way, more)) {
                    found |= 1 << word;
                }
            }
            return found;
        }

        private boolean isWordOver(int word, int field, int way, int more) {
            Script script = told.script;
            int length = script.wordLength[word];
            if (!told.fits(length, field, way)) {
                return false;
            }
            int step = told.stepOf(way);
            for (int k = 0; k < length; k++) {
                if (!script.growsInto(now.shape[field + k * step], script.shapeIn(word, k), more)) {
                    return false;
                }
            }
            return true;
        }

        /** Counts TALES in talesFound up to the k-th, and answers whether there is such a one. */
        boolean findTale(Notes notes, int k) {
            notes.weigh();
            talesFound = 0;
            int places = places();
            for (int word = 0; word < told.script.words; word++) {
                for (int place = 0; place < places; place++) {
                    trial.clearFields();
                    if (!isTale(notes, word, place)) {
                        continue;
                    }
                    if (talesFound == k) {
                        bestWord = word;
                        onePlace = place;
                        return true;
                    }
                    talesFound++;
                }
            }
            return false;
        }

        private boolean isTale(Notes notes, int word, int place) {
            if (costOf(trial, told.fee, word, place / 2, place % 2) < 0) {
                return false;
            }
            put(trial, word, place / 2, place % 2);
            int many = notes.knownMany();
            for (int i = 0; i < many; i++) {
                if (notes.counts(i) && !isSo(notes.hill[i], notes.field[i], notes.letter[i])) {
                    return false;
                }
            }
            return true;
        }

        private boolean isSo(int hill, int field, int letter) {
            if (!told.hills.hasHill(hill) || !told.hasField(field)) {
                return false;
            }
            return told.hills.readFrom(hill, trial.shape[field], told.script) == letter;
        }

        int stacksAfter(int what, int owner, int n) {
            trial.copy(now);
            int how = WHOLE_DAY;
            switch (what) {
                case 0:
                    how = WHOLE_DAY & ~CUTTING;
                    break;
                case 1:
                    how = WHOLE_DAY & ~EATING;
                    break;
                case 2:
                    how = DRY_DAY;
                    break;
                default:
                    trial.cutOwner(told, owner);
                    break;
            }
            for (int i = 0; i < n && trial.day < LAST_DAY; i++) {
                trial.pass(told, how);
            }
            return trial.stacksInAll();
        }
    }
}
