import java.util.Arrays;

/** Promises 15 to 17 where the document names a boundary; each method is of one sentence. */
public final class TextEdgeTest {
    private static final int NONE = SalePart.NONE;
    private static final String[] VALUES =
        {"price", "seller", "buyer", "how", "artist", "held", "from", "again", "joint", "edition"};
    private static final int BLANKS = 0x20202020;

    private TextEdgeTest() {
    }

    public static void main(String[] args) {
        tapeAtMost();
        tapeNoneCome();
        tapeHighestFirst();
        lawBytes();
        lawTapeEmpty();
        lawNothingChanges();
        lawsAtMost();
        lawDays();
        lawAheadOfFault();
        lawOfNoLand();
        lawNumbers();
        faultPlaces();
        faultWithout();
        tokensAlone();
        tokensBehindWord();
        tokensAsPart();
        tokensBehindPart();
        wordsLongestRow();
        tooSoon();
        firstFault();
        faultLeavesNothing();
        faultLeavesNoDue();
        digits();
        zerosAhead();
        clausesAtMost();
        exprsWithin();
        exprsWithinAgain();
        nots();
        stepNumbers();
        partsAtMost();
        yearsAtMost();
        numbersOfOthers();
        noValue();
        noLand();
        emptyText();
        wholeText();
        Due.end();
    }

    private static SalePart desk() {
        return Desks.of(2, 4);
    }

    private static void blanks(SalePart desk, int feeds) {
        for (int i = 0; i < feeds; i++) {
            desk.feed(BLANKS, BLANKS, BLANKS, BLANKS, BLANKS);
        }
    }

    private static void faulty(int fault, int place, String text) {
        SalePart desk = desk();
        Due.same("law of " + text, -1 - fault, Texts.law(desk, 0, text, 0));
        Due.same("fault() of " + text, place, desk.fault());
        Due.same("LAWS behind " + text, 0, desk.count(6));
        Due.same("bytes behind " + text, 0, desk.count(8));
        Due.same("attempt of " + text, fault, Texts.attempt(desk, 1, text, 36499));
        Due.same("fault() of the attempt of " + text, place, desk.fault());
    }

    private static void good(String text) {
        SalePart desk = desk();
        Due.same("law of " + text, 0, Texts.law(desk, 1, text, 36499));
        Due.same("fault() of " + text, NONE, desk.fault());
        Due.same("LAWS behind " + text, 1, desk.count(6));
        Due.same("attempt of " + text, 0, Texts.attempt(desk, 0, text, 0));
        Due.same("fault() of the attempt of " + text, NONE, desk.fault());
    }

    private static void tapeAtMost() {
        Due.by("Promise 15", "how many it has; NONE, if it would have more than 500.");
        SalePart desk = desk();
        for (int i = 1; i <= 25; i++) {
            Due.same("bytes ahead of feed " + i, 20 * i - 20, desk.count(8));
            Due.same("feed " + i, 20 * i, desk.feed(i, i, i, i, i));
        }
        for (int i = 0; i < 3; i++) {
            Due.same("a 26th", NONE, desk.feed(i, i, i, i, i));
            Due.same("bytes", 500, desk.count(8));
        }
        desk.law(0, 500, 0);
        for (int i = 1; i <= 25; i++) {
            Due.same("feed " + i + " of the emptied tape", 20 * i, desk.feed(i, i, i, i, i));
        }
        Due.same("a 26th", NONE, desk.feed(0, 0, 0, 0, 0));
    }

    /** The last twenty bytes alone tell something, and a feed that is refused would tell another one. */
    private static void tapeNoneCome() {
        Due.by("Promise 15", "NONE, and none come, if it would have more than 500.");
        SalePart desk = desk();
        desk.work(0, 1, 1, 0, 1, 1);
        desk.sale(0, 1, 2, 0, 0, 100, 0);
        Texts.feed(desk, "rest 1000;          ");
        blanks(desk, 23);
        Texts.feed(desk, "          rest 2000;");
        Due.same("one too many", 10, Texts.feed(desk, "rest 4000;"));
        Due.same("bytes", 500, desk.count(8));
        Due.isRefused("a byte more", () -> desk.law(0, 501, 0));
        Due.same("the law", 0, desk.law(0, 500, 0));
        Due.same("by its last bytes", 20, desk.sold(0, 2, 0));
    }

    private static void tapeHighestFirst() {
        Due.by("Promise 15", "Twenty bytes come behind the tape, of each number the highest first");
        SalePart desk = desk();
        Due.same("twenty bytes", 20, Texts.feed(desk, "rest 9876;least 543;"));
        desk.work(0, 1, 1, 0, 1, 1);
        desk.sale(0, 1, 2, 0, 0, 10000, 0);
        desk.sale(0, 1, 2, 0, 0, 543, 0);
        desk.sale(0, 1, 2, 0, 0, 542, 0);
        Due.same("law", 0, desk.law(0, 20, 0));
        Due.same("'rest'", 9876, desk.sold(0, 2, 0));
        Due.same("'least'", 1, desk.sold(1, 1, 0));
        Due.same("below 'least'", 0, desk.sold(2, 1, 0));
        int[] places = {24, 16, 8, 0};
        for (int number = 0; number < 5; number++) {
            for (int place = 0; place < 4; place++) {
                for (int high : new int[] {'!', 0x80, 0xff}) {
                    int[] five = new int[5];
                    Arrays.fill(five, BLANKS);
                    five[number] ^= (' ' ^ high) << places[place];
                    desk.feed(five[0], five[1], five[2], five[3], five[4]);
                    Due.same("byte " + high + " in number " + number, -2, desk.law(0, 20, 0));
                    Due.same("its place", 4 * number + place, desk.fault());
                }
            }
        }
    }

    private static void lawBytes() {
        Due.by("Promise 16", "A LAW, the tape's first n bytes. IllegalArgumentException: the tape has not so many, n below 0");
        for (int feeds : new int[] {0, 1, 2, 24, 25}) {
            SalePart desk = desk();
            blanks(desk, feeds);
            for (int n : Whole.far(-2, -1, 20 * feeds + 1, 20 * feeds + 2)) {
                Due.isRefused("law of " + n + " of " + feeds + " feeds", () -> desk.law(0, n, 0));
                Due.isRefused("attempt of " + n + " of " + feeds + " feeds", () -> desk.attempt(0, n, 0));
                Due.same("bytes", 20 * feeds, desk.count(8));
            }
            int made = 0;
            for (int n : new int[] {0, 20 * feeds - 1, 20 * feeds}) {
                if (n >= 0) {
                    Due.same("law of " + n + " of " + feeds + " feeds", made++, desk.law(0, n, 0));
                    blanks(desk, feeds);
                    Due.same("attempt of " + n + " of " + feeds + " feeds", 0, desk.attempt(0, n, 0));
                    blanks(desk, feeds);
                }
            }
        }
        SalePart cut = desk();
        String text = "rest 1; rest 23;";
        int[] due = {0, -2, -2, -2, -2, -2, -2, 1, 2, -2, -2, -2, -2, -2, -2, -2, 3};
        for (int n = 0; n <= text.length(); n++) {
            Texts.feed(cut, text);
            Due.same("the first " + n + " of " + text, due[n], cut.law(0, n, 0));
        }
    }

    private static void lawTapeEmpty() {
        Due.by("Promise 16", "the tape's first n bytes (it is empty then, with -9, too)");
        SalePart desk = desk();
        String[] texts = {"rest 1;", "rest 1", "due frog;", "rest 10001;", "agrees 2;"};
        int[] due = {0, -2, -4, -3, -5};
        for (int i = 0; i < texts.length; i++) {
            int n = Texts.feed(desk, texts[i]);
            blanks(desk, 3);
            Due.same("law of " + texts[i], due[i], desk.law(0, n, 0));
            Due.same("bytes behind it", 0, desk.count(8));
            Due.isRefused("a law of one byte of it", () -> desk.law(0, 1, 0));
            Due.same("the next feed", 20, desk.feed(0, 0, 0, 0, 0));
            Due.same("with -9", -9, desk.law(0, 20, -1));
            Due.same("bytes behind -9", 0, desk.count(8));
            blanks(desk, 2);
            Due.same("a law of none of it", i + 1, desk.law(0, 0, 0));
            Due.same("bytes behind none of it", 0, desk.count(8));
        }
    }

    private static void lawNothingChanges() {
        Due.by("Promise 16", "IllegalArgumentException (behind NoSuchElementException): .. (nothing changes).");
        SalePart desk = desk();
        desk.work(0, 1, 1, 0, 1, 1);
        desk.sale(0, 1, 2, 0, 0, 100, 0);
        Texts.law(desk, 0, "rest 10000;", 0);
        Texts.attempt(desk, 0, "rest 5000;", 0);
        Texts.law(desk, 0, "  rest", 0);
        Texts.feed(desk, "rest 2000;          rest 3000;");
        for (int from : new int[] {-1, 0, 36500}) {
            Whole.stays(desk, "refused laws", () -> {
                Due.isRefused("n below 0", () -> desk.law(0, -1, from));
                Due.isRefused("n above", () -> desk.law(0, 41, from));
                Due.isMissing("no LAND", () -> desk.law(2, 5, from));
                Due.isMissing("no LAND, n below 0", () -> desk.law(2, -1, from));
                Due.isMissing("no LAND, n above", () -> desk.law(-1, 41, from));
                Due.isRefused("attempt, n below 0", () -> desk.attempt(0, -1, from));
                Due.isRefused("attempt, n above", () -> desk.attempt(0, 41, from));
                Due.isMissing("attempt, no LAND", () -> desk.attempt(2, 5, from));
                Due.isMissing("attempt, no LAND, n above", () -> desk.attempt(-1, 41, from));
            });
        }
        Due.same("the place of the FAULT", 6, desk.fault());
        Due.same("the tape as it was", 1, desk.law(0, 40, 1));
        Due.same("the LAW", 0, desk.sold(0, 5, 0));
    }

    private static void lawsAtMost() {
        Due.by("Promise 16", "its number; -9: there are 12");
        SalePart desk = desk();
        for (int i = 0; i < 12; i++) {
            Due.same("a FAULT", -2, Texts.law(desk, i % 2, "rest", 0));
            Due.same("law " + i, i, Texts.law(desk, i % 2, "rest 1;", i));
        }
        for (String text : new String[] {"", "rest 1;", "rest", "frog"}) {
            Due.same("a 13th of " + text, -9, Texts.law(desk, 0, text, 0));
            Due.same("fault() of it", NONE, desk.fault());
            Due.same("bytes behind it", 0, desk.count(8));
            Due.same("LAWS", 12, desk.count(6));
        }
        desk.back(true, 3);
        desk.evenings(1);
        Due.same("a 13th behind one TAKEN BACK", -9, Texts.law(desk, 0, "rest 1;", 0));
        Due.same("an attempt beside 12", 0, Texts.attempt(desk, 0, "rest 1;", 0));
        Due.same("an attempt's FAULT beside 12", 1, Texts.attempt(desk, 0, "rest", 0));
        Due.isMissing("a 13th of no LAND", () -> desk.law(2, 0, 0));
        Due.isRefused("a 13th of one byte", () -> desk.law(0, 1, 0));
    }

    private static void lawDays() {
        Due.by("Promise 16", "-9: the DAY is not as told.");
        SalePart desk = desk();
        for (int from : Whole.far(-2, -1, 36500, 36501)) {
            Due.same("law from " + from, -9, Texts.law(desk, 0, "rest 1;", from));
            Due.same("attempt from " + from, 9, Texts.attempt(desk, 0, "rest 1;", from));
            Due.same("bytes", 0, desk.count(8));
        }
        Due.same("LAWS", 0, desk.count(6));
        int made = 0;
        for (int from : new int[] {0, 1, 36498, 36499}) {
            Due.same("law from " + from, made++, Texts.law(desk, 0, "rest 1;", from));
            Due.same("attempt from " + from, 0, Texts.attempt(desk, 0, "rest 1;", from));
        }
    }

    private static void lawAheadOfFault() {
        Due.by("Promise 16", "-9 (ahead of any FAULT: the text is not read then)");
        SalePart desk = desk();
        for (String text : new String[] {"rest", "frog", "rest 10001;", "due frog;", "agrees 9;", "!"}) {
            desk.feed(0, 0, 0, 0, 0);
            Due.same("a FAULT", -2, desk.law(0, 20, 0));
            Due.same("its place", 0, desk.fault());
            Due.same("law of " + text, -9, Texts.law(desk, 0, text, -1));
            Due.same("fault() of it", NONE, desk.fault());
            Due.same("attempt of " + text, 9, Texts.attempt(desk, 0, text, 36500));
            Due.same("fault() of it", NONE, desk.fault());
        }
    }

    private static void lawOfNoLand() {
        Due.by("Promise 16", "throws NoSuchElementException (no such LAND, as everywhere)");
        SalePart desk = desk();
        Texts.feed(desk, "rest 1;");
        for (int land : Whole.far(-1, 2)) {
            Due.isMissing("law of LAND " + land, () -> desk.law(land, 7, 0));
            Due.isMissing("attempt of LAND " + land, () -> desk.attempt(land, 7, 0));
            Due.isMissing("law of LAND " + land + " from no DAY", () -> desk.law(land, 7, -1));
        }
        Due.same("bytes", 20, desk.count(8));
        Due.same("law of LAND 1", 0, desk.law(1, 7, 0));
    }

    private static void lawNumbers() {
        Due.by("Promise 16", "its number, or - 1 - its FAULT");
        String[] texts = {"x", "rest 10001;", "due x;", "agrees 2;"};
        SalePart desk = desk();
        for (int fault = 1; fault <= 4; fault++) {
            Due.same("law of FAULT " + fault, -1 - fault, Texts.law(desk, 0, texts[fault - 1], 0));
            Due.same("attempt of FAULT " + fault, fault, Texts.attempt(desk, 0, texts[fault - 1], 0));
            Due.same("law without", fault - 1, Texts.law(desk, 0, "", 0));
        }
    }

    private static void faultPlaces() {
        Due.by("Promise 17", "The place of the latest law()'s or attempt()'s FAULT");
        for (int place : new int[] {0, 1, 2, 19, 20, 21, 498, 499}) {
            faulty(1, place, " ".repeat(place) + "!");
            faulty(1, place, "\n".repeat(place) + ";");
            faulty(1, Math.max(place, 4), "rest" + " ".repeat(Math.max(place - 4, 0)) + ")");
        }
        for (int length : new int[] {4, 5, 20, 499, 500}) {
            faulty(1, length, "rest" + " ".repeat(length - 4));
        }
        faulty(1, 499, " ".repeat(499) + "a");
        faulty(2, 495, " ".repeat(490) + "rest 10001");
    }

    private static void faultWithout() {
        Due.by("Promise 17", "The place of the latest law()'s or attempt()'s FAULT; NONE without.");
        SalePart desk = desk();
        Due.same("of a new object", NONE, desk.fault());
        Texts.law(desk, 0, "   x", 0);
        Due.same("of a law", 3, desk.fault());
        Texts.feed(desk, "!");
        desk.land();
        desk.evenings(1);
        Due.isRefused("a law of too many", () -> desk.law(0, 21, 0));
        Due.same("of that law still", 3, desk.fault());
        Due.same("of that law once more", 3, desk.fault());
        Texts.attempt(desk, 0, "", 0);
        Due.same("of an attempt of none of those bytes", NONE, desk.fault());
        Texts.attempt(desk, 0, " ;", 0);
        Due.same("of an attempt", 1, desk.fault());
        Texts.law(desk, 0, "rest 1;", 0);
        Due.same("of a law without", NONE, desk.fault());
        Texts.attempt(desk, 0, "rest ", 0);
        Due.same("of an attempt", 5, desk.fault());
        Texts.attempt(desk, 0, "rest 1;", 0);
        Due.same("of an attempt without", NONE, desk.fault());
        Texts.law(desk, 0, "rest ", 0);
        Texts.law(desk, 0, "rest ", -1);
        Due.same("of a law that isn't read", NONE, desk.fault());
    }

    private static String with(String ahead, int one, String behind) {
        return ahead + (char) one + behind;
    }

    private static boolean isLetter(int one) {
        return one >= 'a' && one <= 'z';
    }

    private static boolean isDigit(int one) {
        return one >= '0' && one <= '9';
    }

    private static boolean isBlank(int one) {
        return one == 32 || one == 10;
    }

    /** A text of one byte: only blanks count for nothing, and nothing else begins a CLAUSE. */
    private static void tokensAlone() {
        Due.by("Terms, TOKENS", "blanks (32, 10) between them count for nothing (of all 256 bytes)");
        for (int one = 0; one <= 255; one++) {
            if (isBlank(one)) {
                good(with("", one, ""));
            } else {
                faulty(1, 0, with("", one, ""));
            }
        }
    }

    private static void tokensBehindWord() {
        Due.by("Terms, TOKENS", "words (a .. z, the longest row), NUMBERS, blanks between them (of all 256 bytes)");
        for (int one = 0; one <= 255; one++) {
            String text = with("rest", one, "1;");
            if (isBlank(one) || isDigit(one)) {
                good(text);
            } else {
                faulty(1, isLetter(one) ? 0 : 4, text);
            }
        }
    }

    private static void tokensAsPart() {
        Due.by("Terms, FAULTS", "1 a TOKEN that can't stand there, or is none; 3 any word that is no VALUE (of all 256 bytes)");
        for (int one = 0; one <= 255; one++) {
            String text = with("due ", one, ";");
            if (isDigit(one)) {
                good(text);
            } else if (isLetter(one)) {
                faulty(3, 4, text);
            } else {
                faulty(1, isBlank(one) || one == '(' ? 5 : 4, text);
            }
        }
    }

    private static void tokensBehindPart() {
        Due.by("Terms, TOKENS", "NUMBERS, signs ; ( ) + - * / < = (of all 256 bytes)");
        for (int one = 0; one <= 255; one++) {
            String text = with("due 1", one, "2;");
            if (isDigit(one) || one < 128 && "+-*/<=".indexOf(one) >= 0) {
                good(text);
            } else {
                faulty(1, isBlank(one) || one == ';' ? 6 : 5, text);
            }
        }
    }

    private static void wordsLongestRow() {
        Due.by("Terms, TOKENS", "words (a .. z, the longest row)");
        for (String word : new String[] {"due", "step", "rest", "least", "most", "years", "claim", "agrees"}) {
            String behind = word.equals("step") ? " 1 1;" : " 1;";
            good(word + behind);
            good(word + behind.substring(1));
            good(" \n" + word + "\n \n" + behind);
            faulty(1, 0, word + "s" + behind);
            faulty(1, 0, word + "a" + behind);
            faulty(1, 0, word + "z" + behind);
            faulty(1, 0, "a" + word + behind);
            faulty(1, 0, word.substring(1) + behind);
            faulty(1, 0, word.substring(0, word.length() - 1) + behind);
            faulty(1, 0, word.charAt(0) + " " + word.substring(1) + behind);
            faulty(1, 0, word.toUpperCase(java.util.Locale.ROOT) + behind);
        }
        for (String value : VALUES) {
            good("due " + value + ";");
            good("due " + value + "=" + value + ";");
            faulty(3, 4, "due " + value + "a;");
            faulty(3, 4, "due a" + value + ";");
            faulty(3, 4, "due " + value.substring(1) + ";");
            faulty(3, 4, "due " + value.substring(0, value.length() - 1) + ";");
            faulty(1, 0, "due" + value + ";");
            faulty(1, 5 + value.length(), "due " + value + " " + value + ";");
        }
        for (String joint : new String[] {"and", "or"}) {
            good("due 1 " + joint + " 1;");
            good("due 1" + joint + "1;");
            faulty(1, 6, "due 1 " + joint + "s 1;");
            faulty(1, 6, "due 1 x" + joint + " 1;");
            faulty(1, 6, "due 1 " + joint + "price;");
        }
        good("due not1;");
        faulty(3, 4, "due nots 1;");
        faulty(3, 4, "due notprice;");
        faulty(1, 0, "a".repeat(500));
    }

    /** What is left of a text that is cut: a CLAUSE that has its ';' is good, all else ends too soon. */
    private static void tooSoon() {
        Due.by("Terms, FAULTS", "1 (the text's length where it ends too soon)");
        String[] whole = {"due", " ", "not", " ", "(", "price", "+", "1", ")", "<", "2", " ", "and", " ", "how", "=", "3",
            " ", "or", " ", "held", "*", "4", ";", "step", " ", "5", " ", "6", ";", "rest", " ", "7", ";"};
        StringBuilder text = new StringBuilder();
        for (String part : whole) {
            text.append(part);
            if (part.equals(";")) {
                good(text.toString());
                good(text + " \n");
            } else {
                faulty(1, text.length(), text.toString());
                faulty(1, text.length() + 3, text + " \n ");
            }
        }
    }

    private static void firstFault() {
        Due.by("Terms, FAULTS", "FAULTS, the first along the text, at a TOKEN's first byte");
        faulty(1, 0, "frog 10001; due frog; agrees 9;");
        faulty(2, 5, "rest 10001; due frog; agrees 9; frog");
        faulty(3, 4, "due frog; agrees 9; frog; rest 10001;");
        faulty(4, 7, "agrees 9; frog; rest 10001; due frog;");
        faulty(2, 5, "rest 10001");
        faulty(2, 5, "rest 10001 10001");
        faulty(4, 7, "agrees 2");
        faulty(2, 7, "agrees 123456789 frog");
        faulty(3, 4, "due frog");
        faulty(2, 5, "step 0 10001;");
        faulty(2, 7, "step 1 10001; step 1 1;");
        faulty(1, 6, "step 1; step 1 1;");
        faulty(3, 10, "due (1) * frog ! 123456789;");
        faulty(2, 4, "due 123456789 frog");
    }

    /** What stood ahead of a FAULT tells nothing of the next LAW or TRY. */
    private static void faultLeavesNothing() {
        Due.by("Promise 16", "- 1 - its FAULT (no LAW is told by it)");
        String[] clauses = {"due 0;", "step 50 10000;", "rest 1;", "least 101;", "most 7;", "years 0;", "claim 0;",
            "agrees 1;", "due 1+(2*(3<price"};
        for (String clause : clauses) {
            SalePart desk = Desks.ofWork(2, 3);
            desk.person(1, 0);
            desk.joins(0, 3, 1);
            desk.sale(0, 1, 2, 100, 0, 100, 0);
            desk.death(0, 0, 100);
            desk.heir(0, 1, 1, 1);
            desk.evenings(1);
            desk.claim(1, 0);
            Due.same("law of " + clause + "!", -2, Texts.law(desk, 0, clause + "!", 0));
            Due.same("no LAW of it", 0, desk.sold(0, 1, 1));
            Due.same("attempt of " + clause + "!", 1, Texts.attempt(desk, 0, clause + "!", 0));
            Due.same("the next attempt", 0, Texts.attempt(desk, 0, "step 20 5000; rest 10000;", 0));
            Due.same("more by it", 45, desk.more(0));
            Due.same("attempt of " + clause + "!", 1, Texts.attempt(desk, 0, clause + "!", 0));
            Due.same("the next law", 0, Texts.law(desk, 0, "step 20 5000; rest 10000;", 0));
            int[] due = {100, 1, 90, 0, NONE, 0, 99999, 0};
            for (int what : new int[] {0, 1, 2, 3, 5}) {
                Due.same("sold, what " + what + ", behind " + clause + "!", due[what], desk.sold(0, what, 1));
            }
            Due.same("what the HEIR GETS behind " + clause + "!", 45, desk.has(0, 1, 3, 1));
            Due.same("what is one's of another LAND behind " + clause + "!", 0, desk.has(0, 3, 0, 1));
        }
    }

    private static void faultLeavesNoDue() {
        Due.by("Promise 16", "- 1 - its FAULT (nothing of its 'due' is told by it)");
        for (String due : new String[] {"not price", "price-price", "0", "price and 0", "1+2*0", "(1)"}) {
            SalePart desk = Desks.ofWork(1, 3);
            desk.sale(0, 1, 2, 100, 0, 100, 0);
            for (String next : new String[] {"price", "0", "1", "price<101"}) {
                int told = desk.count(6);
                Due.same("law of " + due, -2, Texts.law(desk, 0, "due " + due + "; !", 0));
                Due.same("law of " + next, told, Texts.law(desk, 0, "due " + next + ";", 0));
                Due.same("COUNTS by " + next + " behind " + due, next.equals("0") ? 0 : 1, desk.sold(0, 1, 0));
            }
        }
    }

    /** A NUMBER where one can stand, of more and more digits. */
    private static void digits() {
        Due.by("Terms, FAULTS", "2: a NUMBER of 9 digits or more");
        for (int digits = 1; digits <= 12; digits++) {
            for (String[] text : new String[][] {{"least ", ";"}, {"most ", ";"}, {"claim ", ";"}, {"due ", ";"},
                {"due 1+", ";"}, {"due (", ");"}, {"due 1<", ";"}, {"due not ", ";"}, {"step ", " 1;"}}) {
                String whole = text[0] + "9".repeat(digits) + text[1];
                if (digits <= 8) {
                    good(whole);
                } else {
                    faulty(2, text[0].length(), whole);
                }
            }
        }
        faulty(2, 6, "least " + "9".repeat(400) + ";");
        // What would be 0, 1 or 2 as an int that wraps.
        faulty(2, 6, "years 4294967296;");
        faulty(2, 5, "rest 4294967297;");
        faulty(2, 7, "agrees 4294967296;");
        faulty(2, 7, "agrees 18446744073709551616;");
        faulty(2, 5, "step 4294967298 1;");
        faulty(2, 7, "step 1 4294967298;");
        faulty(1, 0, "123456789");
        faulty(1, 6, "due 1 123456789;");
        faulty(1, 9, "step 1 1 123456789;");
    }

    private static void zerosAhead() {
        Due.by("Terms, TOKENS", "NUMBERS (1 to 8 digits)");
        for (String[] text : new String[][] {{"rest ", ";"}, {"years ", ";"}, {"agrees ", ";"}, {"due ", ";"},
            {"step 1 ", ";"}, {"step ", " 1;"}}) {
            for (int zeros = 1; zeros <= 7; zeros++) {
                good(text[0] + "0".repeat(zeros) + "1" + text[1]);
            }
            faulty(2, text[0].length(), text[0] + "000000001" + text[1]);
            faulty(2, text[0].length(), text[0] + "000000000" + text[1]);
        }
        good("rest 00010000;");
        good("years 00000200;");
    }

    private static void clausesAtMost() {
        Due.by("Terms, FAULTS", "2: the first TOKEN of the 17th CLAUSE");
        String[] clauses = {"due 1;", "rest 1;", "least 1;", "most 1;", "years 1;", "claim 1;", "agrees 1;"};
        for (String clause : clauses) {
            good(clause.repeat(15));
            good(clause.repeat(16));
            faulty(2, 16 * clause.length(), clause.repeat(17));
            faulty(2, 16 * clause.length() + 1, clause.repeat(16) + " " + clause.repeat(2));
        }
        StringBuilder steps = new StringBuilder();
        for (int i = 1; i <= 16; i++) {
            steps.append("step ").append(10 + i).append(" 1;");
        }
        good(steps.toString());
        faulty(2, steps.length(), steps + "step 1 1;");
        faulty(2, steps.length(), steps + "step 27 1;");
        for (String word : new String[] {"due", "step", "rest", "least", "most", "years", "claim", "agrees"}) {
            faulty(2, 112, "rest 1;".repeat(16) + word);
            faulty(2, 112, "rest 1;".repeat(16) + word + " ! 123456789");
        }
        for (String other : new String[] {"frog", "price", "not", "1", "123456789", ";", "(", "!"}) {
            faulty(1, 112, "rest 1;".repeat(16) + other);
        }
    }

    private static void exprsWithin() {
        Due.by("Terms, FAULTS", "2: of an EXPR within 6 others (a NUMBER, any word, a parenthesis)");
        for (int depth = 0; depth <= 8; depth++) {
            for (String part : new String[] {"1", "price", "not 1", "not not price", "99999999"}) {
                String text = "due " + "(".repeat(depth) + part + ")".repeat(depth) + ";";
                if (depth <= 5) {
                    good(text);
                } else {
                    faulty(2, 10, text);
                }
            }
            faulty(depth <= 5 ? 3 : 2, 4 + Math.min(depth, 6), "due " + "(".repeat(depth) + "frog");
            faulty(depth <= 5 ? 3 : 2, 4 + Math.min(depth, 6), "due " + "(".repeat(depth) + "due");
            faulty(2, 4 + Math.min(depth, 6), "due " + "(".repeat(depth) + "123456789");
            faulty(depth <= 6 ? 1 : 2, 4 + Math.min(depth, 6), "due " + "(".repeat(depth) + ")");
            faulty(depth <= 6 ? 1 : 2, 4 + Math.min(depth, 6), "due " + "(".repeat(depth) + "!");
            faulty(depth <= 6 ? 1 : 2, 4 + Math.min(depth, 6), "due " + "(".repeat(depth));
        }
    }

    /** What is behind a parenthesis stands no longer within it, and each 'due' begins anew. */
    private static void exprsWithinAgain() {
        Due.by("Terms, FAULTS", "2: of an EXPR within 6 others (those that stand open)");
        String five = "(((((1)))))";
        good("due " + five + "+" + five + "<" + five + " and " + five + " or not " + five + ";");
        good(("due " + five + ";").repeat(16));
        good("due (1+(2*(3-(4/(5)))))=6;");
        good("due (((((1)+(2))*(3))));");
        faulty(2, 22, "due 1+(1+(1+(1+(1+(1+(1))))));");
        faulty(2, 22, "due " + five + "+" + "((((((1))))));");
        good("due (((((1)+(2)))));");
        faulty(2, 14, "due (((((1)+((2))))));");
        faulty(2, 26, "due 1;due (1);  due ((((((1))))));");
    }

    private static void nots() {
        Due.by("Terms, FAULTS", "2: the seventh 'not' side by side");
        for (int many = 0; many <= 9; many++) {
            for (String ahead : new String[] {"", "1 and ", "1 or ", "(", "1+(", "not ("}) {
                String behind = ahead.endsWith("(") ? ")" : "";
                String text = "due " + ahead + "not ".repeat(many) + "1" + behind + ";";
                if (many <= 6) {
                    good(text);
                } else {
                    faulty(2, 4 + ahead.length() + 24, text);
                }
            }
        }
        faulty(2, 28, "due " + "not ".repeat(7));
        faulty(3, 28, "due " + "not ".repeat(6) + "frog;");
        faulty(1, 28, "due " + "not ".repeat(6) + ";");
        good("due not not not not not not 1 and not not not not not not 1 or not not not not not not 1;");
        good("due not not not not not not (not not not not not not 1);");
        good("due not 1; due not not 1; due not not not 1; due not not not not 1;");
        faulty(2, 29, "due not\nnot  not not not not not 1;");
    }

    private static void stepNumbers() {
        Due.by("Terms, FAULTS", "2: of a 'step' a first NUMBER that isn't above that of the 'step' ahead (0 ahead of the first)");
        faulty(2, 5, "step 0 1;");
        faulty(2, 5, "step 00 1;");
        good("step 1 1;");
        good("step 99999999 1;");
        for (int ahead : new int[] {1, 2, 500, 99999998}) {
            String text = "step " + ahead + " 1;";
            int place = text.length() + 5;
            faulty(2, place, text + "step 0 1;");
            faulty(2, place, text + "step " + (ahead - 1) + " 1;");
            faulty(2, place, text + "step " + ahead + " 1;");
            good(text + "step " + (ahead + 1) + " 1;");
            good(text + "rest 1; due 1; step " + (ahead + 1) + " 1;");
            faulty(2, place + 13, text + "rest 1;due 1;step " + ahead + " 1;");
        }
        faulty(2, 24, "step 8 1;step 10 1;step 9 1;");
        faulty(2, 24, "step 9 1;step 10 1;step 9 1;");
        good("step 8 1;step 10 1;step 11 1;");
        faulty(2, 24, "step 99999999 1;   step 99999999 1;");
    }

    private static void partsAtMost() {
        Due.by("Terms, FAULTS", "2: parts (its second NUMBER, that of 'rest') above 10000");
        for (String ahead : new String[] {"rest ", "step 1 ", "step 99999999 ", "step 1 1;step 2 "}) {
            for (int parts : new int[] {0, 1, 9999, 10000}) {
                good(ahead + parts + ";");
            }
            for (int parts : new int[] {10001, 10002, 65536, 99999999}) {
                faulty(2, ahead.length(), ahead + parts + ";");
            }
        }
    }

    private static void yearsAtMost() {
        Due.by("Terms, FAULTS", "2: of 'years' a NUMBER above 200");
        for (int years : new int[] {0, 1, 199, 200}) {
            good("years " + years + ";");
        }
        for (int years : new int[] {201, 202, 256, 99999999}) {
            faulty(2, 6, "years " + years + ";");
        }
    }

    private static void numbersOfOthers() {
        Due.by("Terms, LAW", "('least' | 'most' | 'years' | 'claim') NUMBER ';' (of 1 to 8 digits, whatever it be)");
        for (String clause : new String[] {"least ", "most ", "claim "}) {
            for (String number : new String[] {"0", "1", "200", "201", "10000", "10001", "99999999"}) {
                good(clause + number + ";");
                faulty(1, clause.length() + number.length() + 1, clause + number + " " + number + ";");
                faulty(1, clause.length() + number.length(), clause + number);
            }
            for (String other : new String[] {"price", "frog", "not", "(1)", "-1", ";", "+1", "due"}) {
                faulty(1, clause.length(), clause + other + ";");
            }
        }
    }

    private static void noValue() {
        Due.by("Terms, FAULTS", "3 any word where a PART must stand that is no VALUE");
        String[] words = {"frog", "due", "step", "rest", "least", "most", "years", "claim", "agrees", "and", "or", "a", "z"};
        for (String word : words) {
            for (String ahead : new String[] {"due ", "due not ", "due 1 and ", "due 1 or ", "due 1+", "due 1-", "due 1*",
                "due 1/", "due 1<", "due 1=", "due (", "due (1)+("}) {
                faulty(3, ahead.length(), ahead + word + ";");
            }
            faulty(1, 5, "rest " + word + ";");
            faulty(word.equals("and") || word.equals("or") ? 3 : 1, word.equals("and") ? 10 : word.equals("or") ? 9 : 6,
                    "due 1 " + word + " frog;");
        }
        for (String ahead : new String[] {"due 1+", "due 1*", "due 1<", "due 1=", "due 1/", "due 1-"}) {
            faulty(3, ahead.length(), ahead + "not 1;");
            good(ahead + "(not 1);");
        }
    }

    private static void noLand() {
        Due.by("Terms, FAULTS", "4 behind 'agrees' the number of a LAND that there isn't.");
        for (int lands = 1; lands <= 6; lands++) {
            SalePart desk = Desks.of(lands, 0);
            int made = 0;
            for (int land : new int[] {0, lands - 1}) {
                Due.same("agrees " + land + " of " + lands, made++, Texts.law(desk, 0, "agrees " + land + ";", 0));
            }
            for (int land : new int[] {lands, lands + 1, 6, 7, 31, 32, 33, 64, 99999999}) {
                Due.same("agrees " + land + " of " + lands, land < lands ? 0 : -5,
                        Texts.law(desk, 0, "agrees " + land + ";", 0));
                Due.same("its place", land < lands ? NONE : 7, desk.fault());
                Due.same("attempt of it", land < lands ? 0 : 4, Texts.attempt(desk, 0, "agrees " + land + ";", 0));
            }
        }
        faulty(1, 7, "agrees ;");
        faulty(1, 7, "agrees -1;");
        faulty(1, 9, "agrees 1 1;");
    }

    private static void emptyText() {
        Due.by("Terms, LAW", "LAW: CLAUSE*. (none at all)");
        SalePart desk = desk();
        desk.work(0, 1, 1, 0, 1, 1);
        desk.sale(0, 1, 2, 0, 0, 100, 0);
        desk.claim(0, 0);
        Due.same("a law of no bytes", 0, desk.law(0, 0, 0));
        blanks(desk, 25);
        Due.same("a law of 500 blanks", 1, desk.law(0, 500, 0));
        Due.same("it COUNTS", 1, desk.sold(0, 1, 0));
        Due.same("its PART", 0, desk.sold(0, 2, 0));
        Due.same("an attempt of no bytes", 0, desk.attempt(0, 0, 0));
        good("");
        good(" ");
        good("\n");
        faulty(1, 0, ";");
        faulty(1, 7, "rest 1;;");
    }

    private static void wholeText() {
        Due.by("Terms, LAWS", "each a text of at most 500 bytes");
        String sum = "due " + "1+".repeat(247) + "1;";
        Due.same("the text's bytes", 500, sum.length());
        good(sum);
        faulty(1, 500, sum.substring(0, 499) + " ");
        faulty(1, 500, sum.substring(0, 498) + "  ");
        SalePart desk = desk();
        desk.work(0, 1, 1, 0, 1, 1);
        for (int price = 244; price <= 246; price++) {
            desk.sale(0, 1, 2, 0, 0, price, 0);
        }
        Due.same("a law of 500 bytes", 0, Texts.law(desk, 0, "due price=1" + "+1".repeat(244) + ";", 0));
        for (int i = 0; i < 3; i++) {
            Due.same("whether " + (244 + i) + " is 245 ones", i == 1 ? 1 : 0, desk.sold(i, 1, 0));
        }
        good("rest 1;".repeat(15) + " ".repeat(388) + "rest 1;");
        faulty(1, 499, "rest 1;".repeat(15) + " ".repeat(388) + "rest 1!");
    }
}
