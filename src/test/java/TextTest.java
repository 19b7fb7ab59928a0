/** Promises 15 to 17: the tape, the texts of LAWS and their FAULTS. */
public final class TextTest {
    private static final int NONE = SalePart.NONE;

    private TextTest() {
    }

    public static void main(String[] args) {
        feeds();
        laws();
        tapeOfLaws();
        misplaced();
        tooMuch();
        forgotten();
        tooDeep();
        noValues();
        noLands();
        goodTexts();
        values();
        clauses();
        Due.end();
    }

    /** Two LANDS, four PERSONS: private, dealer, museum, private. */
    private static SalePart desk() {
        SalePart desk = new SalePart();
        desk.land();
        desk.land();
        for (int sort : new int[] {0, 1, 2, 0}) {
            desk.person(0, sort);
        }
        return desk;
    }

    private static void feeds() {
        SalePart desk = new SalePart();
        for (int i = 1; i <= 25; i++) {
            Due.same("feed " + i, 20 * i, desk.feed(0x20202020, 0x20202020, 0x20202020, 0x20202020, 0x20202020));
        }
        Due.same("a 26th feed", NONE, desk.feed(0, 0, 0, 0, 0));
        Due.same("bytes", 500, desk.count(8));
        desk.land();
        Due.same("a law of 500 blanks", 0, desk.law(0, 500, 0));
        Due.same("bytes behind it", 0, desk.count(8));
        Due.same("feed behind it", 20, desk.feed(1, 2, 3, 4, 5));
        // Of each number the highest byte comes first: "rest" "   2" "000 " "   ;".
        desk.law(0, 20, 0);
        desk.feed(0x72657374, 0x20202032, 0x30303020, 0x2020203b, 0xffffffff);
        Due.same("a law byte by byte", 1, desk.law(0, 16, 0));
        desk.feed(0x72657374, 0x20202032, 0x30303020, 0x2020203b, 0xff202020);
        Due.same("a byte of 255", -2, desk.law(0, 17, 0));
        Due.same("its place", 16, desk.fault());
    }

    private static void laws() {
        SalePart desk = desk();
        Due.same("an empty law", 0, desk.law(0, 0, 0));
        Due.same("a law from the last DAY", 1, desk.law(1, 0, 36499));
        Due.isMissing("law of no LAND", () -> desk.law(2, -1, 0));
        Due.isMissing("law of LAND -1", () -> desk.law(-1, 0, 0));
        Due.isRefused("n below 0", () -> desk.law(0, -1, 36500));
        Due.isRefused("n above the tape", () -> desk.law(0, 1, 0));
        Texts.feed(desk, "rest 1");
        Due.isRefused("n above the tape by one", () -> desk.law(0, 21, 0));
        Due.same("the tape is left", 20, desk.count(8));
        Due.same("law ahead of all DAYS", -9, desk.law(0, 6, -1));
        Due.same("the tape is emptied", 0, desk.count(8));
        Due.same("no FAULT", NONE, desk.fault());
        Texts.feed(desk, "rest");
        Due.same("law behind all DAYS", -9, desk.law(0, 4, 36500));
        Due.same("LAWS", 2, desk.count(6));
        for (int i = 2; i < 12; i++) {
            Due.same("law " + i, i, Texts.law(desk, i % 2, "rest 1;", i));
        }
        Due.same("a 13th law", -9, Texts.law(desk, 0, "rest", 0));
        Due.same("a 13th law's FAULT", NONE, desk.fault());
        Due.isMissing("a 13th law of no LAND", () -> desk.law(2, 0, 0));
        Due.isRefused("a 13th law of too many bytes", () -> desk.law(0, 1, 0));
    }

    private static void tapeOfLaws() {
        SalePart desk = desk();
        Texts.feed(desk, "rest 1; frog");
        Due.same("the first bytes alone", 0, desk.law(0, 7, 0));
        Due.same("the tape is emptied", 0, desk.count(8));
        Due.same("a FAULT", -2, Texts.law(desk, 0, "rest 1; frog", 0));
        Due.same("its place", 8, desk.fault());
        Due.same("the tape is emptied by it too", 0, desk.count(8));
        Due.isRefused("what the tape has not", () -> desk.law(0, 1, 0));
        Due.isMissing("of no LAND", () -> desk.law(9, 0, 0));
        Due.same("the place is left by exceptions", 8, desk.fault());
        Due.same("a law without FAULT", 1, desk.law(0, 0, 0));
        Due.same("no place", NONE, desk.fault());
        Due.same("cut within a word", -2, law(desk, "res", 3));
        Texts.feed(desk, "rest 12;");
        Due.same("cut ahead of the end", -2, desk.law(0, 7, 0));
        Due.same("the text's length", 7, desk.fault());
    }

    private static int law(SalePart desk, String text, int n) {
        Texts.feed(desk, text);
        return desk.law(0, n, 0);
    }

    private static void faulty(int fault, int place, String text) {
        SalePart desk = desk();
        Due.same("law of " + text, -1 - fault, Texts.law(desk, 0, text, 0));
        Due.same("fault() of " + text, place, desk.fault());
        Due.same("LAWS behind " + text, 0, desk.count(6));
        Due.same("attempt of " + text, fault, Texts.attempt(desk, 0, text, 0));
        Due.same("fault() of the attempt of " + text, place, desk.fault());
    }

    private static void good(String text) {
        SalePart desk = desk();
        Due.same("law of " + text, 0, Texts.law(desk, 0, text, 0));
        Due.same("fault() of " + text, NONE, desk.fault());
        Due.same("attempt of " + text, 0, Texts.attempt(desk, 0, text, 0));
    }

    private static void misplaced() {
        faulty(1, 0, "frog 1;");
        faulty(1, 0, "1;");
        faulty(1, 1, " ;");
        faulty(1, 0, "123456789;");
        faulty(1, 0, "price;");
        faulty(1, 0, "dues1;");
        faulty(1, 0, "Due 1;");
        faulty(1, 4, "due ;");
        faulty(1, 4, "due ) ;");
        faulty(1, 4, "due -1;");
        faulty(1, 5, "due  !;");
        faulty(1, 5, "due 1");
        faulty(1, 7, "due 1 \n");
        faulty(1, 3, "due");
        faulty(1, 6, "due 1 2;");
        faulty(1, 6, "due 1 price;");
        faulty(1, 6, "due 1 not;");
        faulty(1, 6, "due 1 123456789;");
        faulty(1, 5, "due 1);");
        faulty(1, 6, "due (1;");
        faulty(1, 5, "due ();");
        faulty(1, 8, "due 1<2 < 3;");
        faulty(1, 8, "due 1 + * 2;");
        faulty(1, 13, "due 1 and 2 =;");
        faulty(1, 7, "due not;");
        faulty(1, 6, "step 5;");
        faulty(1, 5, "step price 1;");
        faulty(1, 9, "step 5 1 1;");
        faulty(1, 5, "rest ;");
        faulty(1, 5, "rest x;");
        faulty(1, 7, "rest 1 rest 2;");
        faulty(1, 6, "least (1);");
        faulty(1, 7, "agrees price;");
        faulty(1, 4, "rest\t1;");
        faulty(1, 4, "due \r1;");
        faulty(1, 7, "rest 1;\u00e9");
    }

    private static void tooMuch() {
        faulty(2, 5, "rest 10001;");
        faulty(2, 5, "rest 123456789;");
        faulty(2, 5, "rest 000000001;");
        faulty(2, 5, "step 0 5;");
        faulty(2, 7, "step 1 10001;");
        faulty(2, 16, "step 10 5; step 10 5;");
        faulty(2, 24, "step 10 5; rest 1; step 9 5;");
        faulty(2, 6, "years 201;");
        faulty(2, 6, "least 100000000;");
        faulty(2, 5, "most 100000000;");
        faulty(2, 6, "claim 100000000;");
        faulty(2, 7, "agrees 100000000;");
        faulty(2, 4, "due 100000000;");
        faulty(2, 8, "due 1 + 100000000;");
        faulty(2, 28, "due not not not not not not not 1;");
        faulty(2, 28, "due not not not not not not not not");
        String sixteen = "rest 1;".repeat(16);
        good(sixteen);
        faulty(2, 112, sixteen + "rest 1;");
        faulty(2, 113, sixteen + " due frog;");
        faulty(1, 112, sixteen + "frog");
        faulty(1, 112, sixteen + ";");
    }

    /** Nothing of a text with a FAULT stays for the next one. */
    private static void forgotten() {
        SalePart desk = desk();
        desk.work(0, 1, 1, 0, 1, 1);
        desk.person(1, 0);
        desk.work(4, 1, 1, 0, 1, 1);
        desk.sale(0, 1, 2, 1000, 0, 1000, 0);
        desk.sale(1, 1, 2, 1000, 0, 1000, 0);
        desk.death(0, 1, 1);
        desk.claim(0, 0);
        Due.same("a FAULT at the end", -2, Texts.law(desk, 0,
                "due 0; step 5 5; rest 9; least 9999; most 3; years 1; claim 0; agrees 1; x", 0));
        Due.same("an empty law", 0, desk.law(0, 0, 0));
        Due.same("it COUNTS", 1, desk.sold(0, 1, 0));
        Due.same("nothing by 'rest'", 0, desk.sold(0, 2, 0));
        Due.same("70 years", 1, desk.has(0, 0, 1, 0));
        Due.same("the other LAND doesn't agree", 0, desk.has(1, 4, 1, 0));
        Texts.law(desk, 0, "step 5 5; rest 9; most 1; least 9999; x", 0);
        Due.same("an attempt", 0, Texts.attempt(desk, 0, "rest 10000;", 0));
        Due.same("more by it alone", 1000, desk.more(0));
        Texts.law(desk, 0, "step 500 5; x", 0);
        Due.same("a lower 'step'", 1, Texts.law(desk, 0, "step 400 10000; rest 1;", 0));
        Due.same("the 'step' alone", 400, desk.sold(0, 2, 0));
    }

    /** Parentheses: what stands in five is within five EXPRS. */
    private static void tooDeep() {
        good("due (((((1)))));");
        for (String first : new String[] {"1", "price", "frog", "not", "or", "due", "(", "123456789"}) {
            faulty(2, 10, "due ((((((" + first + "))))));");
        }
        for (String first : new String[] {")", ";", "+", "<", "!", ""}) {
            faulty(1, 10, "due ((((((" + first);
        }
        faulty(2, 20, "due 1 + (1 + (((1+((price)))))); ");
        good("due (((((1))))) or (((((1))))) and not (((((1)))));");
        good("due not not not not not not (not not not not not not (1)) and not not 1;");
    }

    private static void noValues() {
        faulty(3, 4, "due frog;");
        faulty(3, 4, "due and 1;");
        faulty(3, 8, "due not or;");
        faulty(3, 8, "due 1 + not 1;");
        faulty(3, 8, "due 1 < not 1;");
        faulty(3, 6, "due 1*due;");
        faulty(3, 5, "due (rest);");
        faulty(3, 4, "due prices;");
        faulty(3, 4, "due pric;");
        faulty(3, 4, "due a;");
        faulty(3, 4, "due z;");
        faulty(3, 9, "due 1 or frog 123456789;");
    }

    private static void noLands() {
        good("agrees 0; agrees 1; agrees 00000001;");
        faulty(4, 7, "agrees 2;");
        faulty(4, 7, "agrees 99999999;");
        faulty(4, 17, "agrees 1; agrees 2 frog");
        SalePart desk = desk();
        Due.same("a LAND that there isn't", -5, Texts.law(desk, 0, "agrees 2;", 0));
        desk.land();
        Due.same("it is there now", 0, Texts.law(desk, 0, "agrees 2;", 0));
    }

    private static void goodTexts() {
        good("");
        good("  \n \n");
        good("due 1;due 2;");
        good("due 1+2=(3=4);");
        good("due1;rest2;step3 4;");
        good("due\nprice * 2 - held / 3 < 99999999 and not artist or from = 0;");
        good("step 1 10000; step 2 0; step 99999999 1; rest 10000; least 0; most 0; years 0; years 200; claim 0;");
        good("due not not not not not not 1;");
        good("due " + "1+".repeat(247) + "1;");
    }

    /** Whether 'due' holds of a SALE of 999 from 1 (dealer) to 2 (museum), how 3, of a WORK of 0 and 3, edition 7. */
    private static void holds(boolean due, String expr) {
        SalePart desk = desk();
        desk.work(0, 2, 7, 0, 1, 1);
        desk.joins(0, 3, 1);
        desk.sale(0, 2, 3, 100, 0, 1, 0);
        desk.fact(3, 0, 3, 1, 200);
        int sale = desk.sale(0, 1, 2, 250, 0, 999, 3);
        Texts.law(desk, 0, "due " + expr + ";", 0);
        Due.same("whether " + expr + " holds", due ? 1 : 0, desk.sold(sale, 1, 0));
    }

    private static void values() {
        String[] values = {"price = 999", "seller = 1", "buyer = 2", "how = 3", "artist = 0", "held = 50", "from = 1",
            "again = 1", "joint = 2", "edition = 7"};
        for (String value : values) {
            holds(true, value);
            holds(false, "not " + value);
            holds(true, "not (" + value + ") = 0");
        }
        holds(false, "0 * 5");
        holds(false, "2 * 3 = 7");
        holds(false, "not 12 / 5 = 2");
        holds(true, "5");
        holds(false, "0");
        holds(true, "0-5");
        holds(true, "(5) * 2 = 10");
        holds(true, "(5 or 0) * 2 = 2");
        holds(true, "(2 and 4) + 1 = 2");
        holds(true, "(not 7) = 0 and (not 0) = 1");
        holds(true, "(2 < 3) + (3 < 2) + (3 = 3) = 2");
        holds(false, "3 < 3");
        holds(true, "10 - 3 - 2 = 5");
        holds(true, "100 / 7 / 2 = 7");
        holds(true, "2 + 3 * 4 = 14");
        holds(true, "12 / 5 * 5 = 10");
        holds(true, "(0 - 7) / 2 = 0 - 3");
        holds(true, "(1 + 5 / 0) = 1");
        holds(true, "1 or 0 and 0");
        holds(false, "(1 or 0) and 0");
        holds(true, "not 0 or 1");
        holds(false, "not (0 or 1)");
        holds(true, "not 1 < 1");
        holds(false, "not not 0");
        // 46341 times itself wraps below 0; the lowest int by -1 is itself.
        holds(true, "46341 * 46341 < 0");
        holds(true, "65536 * 32768 / (0 - 1) = 65536 * 32768");
        holds(true, "65536 * 32768 - 1 = 21 * 99999999 + 47483668");
    }

    private static void clauses() {
        SalePart desk = desk();
        desk.work(0, 1, 1, 0, 1, 1);
        desk.sale(0, 1, 2, 100, 0, 1000, 0);
        desk.sale(0, 0, 2, 100, 0, 1000, 0);
        Texts.law(desk, 0, "rest 5000;", 0);
        Due.same("without 'due', another one sells", 1, desk.sold(0, 1, 0));
        Due.same("without 'due', the ARTIST sells", 0, desk.sold(1, 1, 0));
        Texts.law(desk, 0, "due 1; due 0;", 1);
        Due.same("the last 'due' doesn't hold", 0, desk.sold(0, 1, 0));
        Texts.law(desk, 0, "due 0; rest 1; due artist = 1;", 2);
        Due.same("the last 'due' holds", 1, desk.sold(1, 1, 0));
        Due.same("the last 'due' holds not of the other", 0, desk.sold(0, 1, 0));
        Texts.law(desk, 0, "rest 1; least 1001; most 1; rest 5000; least 1000; most 400;", 3);
        Due.same("the last 'rest', 'least', 'most'", 400, desk.sold(0, 2, 0));
        Texts.law(desk, 0, "rest 5000; most 400; most 501;", 4);
        Due.same("'most' that is more", 500, desk.sold(0, 2, 0));
        Texts.law(desk, 0, "rest 5000; most 0;", 5);
        Due.same("'most' of 0", 0, desk.sold(0, 2, 0));
        Texts.law(desk, 0, "least 1001; rest 5000;", 6);
        Due.same("below 'least'", 0, desk.sold(0, 1, 0));
    }
}
