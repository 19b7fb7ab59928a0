/** Promises 18 and 19 where the document names a boundary; each method is of one sentence. */
public final class SaleEdgeTest {
    private static final int NONE = SalePart.NONE;

    private SaleEdgeTest() {
    }

    public static void main(String[] args) {
        soldOfNothing();
        soldWhat();
        soldEvenings();
        soldUnknown();
        hasOfNothing();
        hasWhat();
        hasEvenings();
        hasUnknown();
        hasWithoutCount();
        leastPrice();
        steps();
        stepsAndRest();
        partsTogether();
        partMost();
        partNone();
        ofOthersTheLast();
        weights();
        weightsFor();
        forLands();
        forSpans();
        forSeventyYears();
        forTwoHundredYears();
        forNotAnArtist();
        openIsWhole();
        lawsOfDays();
        lawsOfLikeDays();
        withoutAnyOfTwelve();
        collects();
        inEightRounds();
        firstAndLastPerson();
        eightRoundsOfThirty();
        firstAndLastFacts();
        firstAndLastEvening();
        eachPartCutDown();
        allAtOnce();
        deadWithoutHeirs();
        heirsWhoLive();
        mandateDays();
        mandateToldLast();
        fees();
        claimsInTime();
        noClaim();
        noneOfAllClaims();
        claimsWithoutClause();
        claimKnown();
        claimsEachOnItsEvening();
        claimBesideMandate();
        heldIsWhatNobodyGets();
        Due.end();
    }

    /** Two LANDS, ten PERSONS of LAND 0, a WORK of PERSON 0. */
    private static SalePart desk() {
        return Desks.ofWork(2, 10);
    }

    /** With a SALE, FACT 0, on DAY 1000, of which PERSON 0 has a PART of so much. */
    private static SalePart desk(int part) {
        SalePart desk = desk();
        Texts.law(desk, 0, "rest 10000;", 0);
        desk.sale(0, 1, 2, 1000, 0, part, 0);
        return desk;
    }

    private static void soldOfNothing() {
        Due.by("Promise 18", "throws NoSuchElementException (no such SALE, as everywhere: the FACT's number)");
        SalePart desk = desk(100);
        desk.death(9, 0, 0);
        desk.heir(8, 9, 1, 1);
        for (int kind = 3; kind <= 4; kind++) {
            desk.fact(kind, 0, 1, 2, 0);
        }
        desk.society(0, 0);
        desk.fact(5, 0, 9, 0, 0);
        for (int sale : Whole.far(-1, 1, 2, 3, 4, 5, 6)) {
            for (int k = -1; k <= 1; k++) {
                int on = k;
                Due.isMissing("sold of FACT " + sale + " on EVENING " + k, () -> desk.sold(sale, 0, on));
                Due.isMissing("sold of FACT " + sale + ", what 8, on EVENING " + k, () -> desk.sold(sale, 8, on));
            }
        }
        Due.same("sold of FACT 0", 100, desk.sold(0, 0, 0));
    }

    private static void soldWhat() {
        Due.by("Promise 18", "NoSuchElementException: another what.");
        SalePart desk = desk(100);
        desk.society(0, 0);
        int[] due = {100, 1, 100, 100, 0, 0, 99999, 0};
        for (int what = 0; what <= 7; what++) {
            Due.same("what " + what, due[what], desk.sold(0, what, 0));
        }
        for (int what : Whole.far(-2, -1, 8, 9)) {
            for (int k = -1; k <= 1; k++) {
                int on = k;
                Due.isMissing("what " + what + " on EVENING " + k, () -> desk.sold(0, what, on));
            }
        }
        desk.back(false, 0);
        Due.isMissing("what 8 of one that isn't known", () -> desk.sold(0, 8, 0));
    }

    private static void soldEvenings() {
        Due.by("Promise 18", "IllegalArgumentException: no such EVENING (0 to TONIGHT, as everywhere).");
        SalePart desk = desk(100);
        for (int tonight : new int[] {0, 1, 7, 998, 999}) {
            desk.evenings(tonight - desk.count(0));
            for (int k : Whole.far(-2, -1, tonight + 1, tonight + 2)) {
                Due.isRefused("EVENING " + k + ", TONIGHT " + tonight, () -> desk.sold(0, 0, k));
            }
            for (int k : new int[] {0, tonight / 2, tonight}) {
                Due.same("EVENING " + k + ", TONIGHT " + tonight, 100, desk.sold(0, 0, k));
            }
        }
        desk.back(false, 0);
        Due.isRefused("EVENING 1000 of one that isn't known", () -> desk.sold(0, 0, 1000));
    }

    private static void soldUnknown() {
        Due.by("Promise 18", "NONE, if it isn't known.");
        SalePart desk = desk();
        desk.society(0, 0);
        Texts.law(desk, 0, "rest 10000;", 0);
        desk.evenings(3);
        desk.sale(0, 1, 2, 1000, 0, 50, 0);
        desk.evenings(2);
        desk.back(false, 0);
        desk.evenings(1);
        int[] due = {50, 1, 50, 50, 0, 0, 99999, 0};
        for (int what = 0; what <= 7; what++) {
            for (int k = 0; k <= 6; k++) {
                Due.same("what " + what + " on EVENING " + k, k == 3 || k == 4 ? due[what] : NONE, desk.sold(0, what, k));
            }
        }
    }

    private static void hasOfNothing() {
        Due.by("Promise 19", "throws NoSuchElementException (no such SALE, PERSON, as everywhere)");
        SalePart desk = desk(100);
        desk.fact(4, 0, 1, 2, 0);
        for (int k = -1; k <= 1; k++) {
            int on = k;
            for (int sale : Whole.far(-1, 1, 2)) {
                Due.isMissing("has of FACT " + sale, () -> desk.has(sale, 0, 0, on));
                Due.isMissing("has of FACT " + sale + ", nobody", () -> desk.has(sale, 10, 4, on));
            }
            for (int person : Whole.far(-1, 10, 11, 30)) {
                for (int what = 0; what <= 3; what++) {
                    int of = what;
                    Due.isMissing("has of PERSON " + person, () -> desk.has(0, person, of, on));
                }
            }
        }
        Due.same("has of PERSON 9", 0, desk.has(0, 9, 0, 0));
        Due.same("has of PERSON 0", 100, desk.has(0, 0, 0, 0));
        desk.back(false, 0);
        Due.isMissing("nobody, of one that isn't known", () -> desk.has(0, 10, 0, 0));
    }

    private static void hasWhat() {
        Due.by("Promise 19", "Exceptions likewise (another what).");
        SalePart desk = desk(100);
        int[] due = {100, 1, 100, 0};
        for (int what = 0; what <= 3; what++) {
            Due.same("what " + what, due[what], desk.has(0, 0, what, 0));
        }
        for (int what : Whole.far(-2, -1, 4, 5)) {
            for (int k = -1; k <= 1; k++) {
                int on = k;
                Due.isMissing("what " + what + " on EVENING " + k, () -> desk.has(0, 0, what, on));
                Due.isMissing("what " + what + " of no ARTIST on EVENING " + k, () -> desk.has(0, 5, what, on));
            }
        }
        desk.back(false, 0);
        Due.isMissing("what 4 of one that isn't known", () -> desk.has(0, 0, 4, 0));
    }

    private static void hasEvenings() {
        Due.by("Promise 19", "Exceptions likewise (no such EVENING: 0 to TONIGHT).");
        SalePart desk = desk(100);
        for (int tonight : new int[] {0, 1, 7, 999}) {
            desk.evenings(tonight - desk.count(0));
            for (int what = 0; what <= 3; what++) {
                int of = what;
                for (int k : Whole.far(-1, tonight + 1)) {
                    Due.isRefused("EVENING " + k + ", TONIGHT " + tonight, () -> desk.has(0, 0, of, k));
                }
            }
            Due.same("EVENING 0", 100, desk.has(0, 0, 0, 0));
            Due.same("TONIGHT " + tonight, 100, desk.has(0, 0, 0, tonight));
        }
    }

    private static void hasUnknown() {
        Due.by("Promise 19", "0, if the SALE isn't known");
        SalePart desk = desk();
        desk.society(0, 0);
        desk.fact(5, 0, 0, 0, 0);
        Texts.law(desk, 0, "rest 10000;", 0);
        desk.evenings(3);
        desk.sale(0, 1, 2, 1000, 0, 50, 0);
        desk.evenings(2);
        desk.back(false, 1);
        desk.evenings(1);
        int[] due = {50, 1, 50, 50};
        for (int what = 0; what <= 3; what++) {
            for (int k = 0; k <= 6; k++) {
                Due.same("what " + what + " on EVENING " + k, k == 3 || k == 4 ? due[what] : 0, desk.has(1, 0, what, k));
            }
        }
    }

    private static void hasWithoutCount() {
        Due.by("Promise 19", "0, if the SALE doesn't COUNT.");
        for (String text : new String[] {"due 0; rest 10000;", "least 51; rest 10000;", "due 1; least 51; rest 10000;",
            "due price=51; rest 10000;"}) {
            for (int price = 50; price <= 51; price++) {
                SalePart desk = desk();
                desk.society(0, 0);
                desk.fact(5, 0, 0, 0, 0);
                Texts.law(desk, 0, text, 0);
                desk.sale(0, 1, 2, 1000, 0, price, 0);
                boolean counts = price == 51 && !text.startsWith("due 0");
                int[] due = {51, 1, 51, 51};
                for (int what = 0; what <= 3; what++) {
                    Due.same("what " + what + " of " + price + " by " + text, counts ? due[what] : 0,
                            desk.has(1, 0, what, 0));
                }
                Due.same("COUNTS", counts ? 1 : 0, desk.sold(1, 1, 0));
                Due.same("PART", counts ? 51 : 0, desk.sold(1, 2, 0));
                Due.same("HELD", 0, desk.sold(1, 3, 0));
                Due.same("the LAW", 0, desk.sold(1, 5, 0));
            }
        }
    }

    private static void leastPrice() {
        Due.by("Terms, SALE", "it COUNTS, if PRICE isn't below 'least' (0 without)");
        int[][] prices = {{1, 0, 1}, {1, 1, 1}, {1, 2, 0}, {999, 1000, 0}, {1000, 1000, 1}, {1001, 1000, 1},
            {20000000, 99999999, 0}, {20000000, 20000000, 1}, {20000000, 20000001, 0}};
        for (int[] one : prices) {
            SalePart desk = desk();
            Texts.law(desk, 0, "least " + one[1] + ";", 0);
            desk.sale(0, 1, 2, 1000, 0, one[0], 0);
            Due.same(one[0] + " by least " + one[1], one[2], desk.sold(0, 1, 0));
        }
        SalePart rated = desk();
        Texts.law(rated, 0, "least 1000;", 0);
        rated.sale(0, 1, 2, 1000, 0, 1999, 0);
        rated.sale(0, 1, 2, 1000, 0, 2000, 0);
        rated.rate(0, 0, 500);
        Due.same("1999 halved", 0, rated.sold(0, 1, 0));
        Due.same("2000 halved", 1, rated.sold(1, 1, 0));
        SalePart nothing = desk();
        nothing.rate(0, 0, 1);
        nothing.law(0, 0, 0);
        nothing.sale(0, 1, 2, 1000, 0, 1, 0);
        Due.same("a PRICE of 0", 0, nothing.sold(0, 0, 0));
        Due.same("a PRICE of 0, without 'least'", 1, nothing.sold(0, 1, 0));
        Texts.law(nothing, 0, "least 1;", 0);
        Due.same("a PRICE of 0 by least 1", 0, nothing.sold(0, 1, 0));
    }

    private static void part(int part, int price, String text) {
        SalePart desk = desk();
        Due.same("law of " + text, 0, Texts.law(desk, 0, text, 0));
        desk.sale(0, 1, 2, 1000, 0, price, 0);
        Due.same("PART of " + price + " by " + text, part, desk.sold(0, 2, 0));
    }

    private static void steps() {
        Due.by("Terms, LAW", "PARTS of 10000 by 'steps': of what of a price lies above the 'step' ahead, up to its own");
        String one = "step 1000 10000;";
        part(1, 1, one);
        part(999, 999, one);
        part(1000, 1000, one);
        part(1000, 1001, one);
        part(1000, 20000000, one);
        String two = "step 1000 0; step 3000 10000;";
        part(0, 999, two);
        part(0, 1000, two);
        part(1, 1001, two);
        part(1999, 2999, two);
        part(2000, 3000, two);
        part(2000, 3001, two);
        String near = "step 10 0; step 11 10000; step 12 0;";
        part(0, 10, near);
        part(1, 11, near);
        part(1, 12, near);
        part(1, 13, near);
        part(20000000, 20000000, "step 99999999 10000;");
        part(19999999, 20000000, "step 1 0; step 99999999 10000;");
        part(0, 20000000, "step 20000000 0; step 20000001 10000;");
        part(1, 20000000, "step 19999999 0; step 20000000 10000;");
        String others = sixteen("10000", "0");
        part(7, 14, others);
        part(8, 15, others);
        part(8, 16, others);
        part(8, 100, others);
        String last = sixteen("0", "10000");
        part(7, 14, last);
        part(7, 15, last);
        part(8, 16, last);
        part(8, 100, last);
    }

    /** As many 'steps' as CLAUSES there may be, each up to 1 more. */
    private static String sixteen(String first, String second) {
        StringBuilder text = new StringBuilder();
        for (int i = 1; i <= 16; i++) {
            text.append("step ").append(i).append(' ').append(i % 2 == 1 ? first : second).append(';');
        }
        return text.toString();
    }

    private static void stepsAndRest() {
        Due.by("Terms, LAW", "by 'rest' (0 without) of what lies above the last.");
        String text = "step 1000 0; rest 10000;";
        part(0, 1, text);
        part(0, 999, text);
        part(0, 1000, text);
        part(1, 1001, text);
        part(19999000, 20000000, text);
        part(1, 1, "rest 10000;");
        part(0, 20000000, "step 1000 0;");
        part(0, 20000000, "");
        part(1, 1001, "rest 10000; step 1000 0;");
        part(0, 20000000, "step 20000000 0; rest 10000;");
        part(0, 20000000, "step 99999999 0; rest 10000;");
        part(1, 20000000, "step 19999999 0; rest 10000;");
    }

    private static void partsTogether() {
        Due.by("Terms, PART", "PARTS of PRICE, these together by 10000, cut down");
        part(0, 9999, "rest 1;");
        part(1, 10000, "rest 1;");
        part(1, 10001, "rest 1;");
        part(1, 19999, "rest 1;");
        part(2, 20000, "rest 1;");
        part(0, 1, "rest 9999;");
        part(1, 1, "rest 10000;");
        // 4 + 3 + 3 thousands come to ten.
        part(1, 10000, "step 4000 1; step 7000 1; rest 1;");
        part(0, 9999, "step 4000 1; step 7000 1; rest 1;");
        part(1, 3, "step 1 3333; step 2 3333; rest 3334;");
        part(0, 3, "step 1 3333; step 2 3333; rest 3333;");
        part(20000000, 20000000, "step 7 10000; rest 10000;");
        SalePart most = desk();
        Texts.law(most, 0, "step 1 9999; rest 10000;", 0);
        most.rate(0, 0, 99999);
        most.sale(0, 1, 2, 1000, 0, 20000000, 0);
        Due.same("PART of the highest PRICE", 1999979999, most.sold(0, 2, 0));
        Due.same("what of it is the ARTIST's", 1999979999, most.has(0, 0, 0, 0));
        Due.same("what of it is HELD", 1999979999, most.sold(0, 3, 0));
    }

    private static void partMost() {
        Due.by("Terms, PART", "at most 'most' (if told)");
        part(100, 100, "rest 10000;");
        part(0, 100, "rest 10000; most 0;");
        part(1, 100, "rest 10000; most 1;");
        part(99, 100, "rest 10000; most 99;");
        part(100, 100, "rest 10000; most 100;");
        part(100, 100, "rest 10000; most 101;");
        part(100, 100, "most 99999999; rest 10000;");
        part(49, 100, "rest 5000; most 49;");
        part(50, 100, "rest 5000; most 50;");
        part(50, 100, "rest 5000; most 51;");
        part(50, 100, "rest 5000; most 100;");
        part(50, 101, "rest 5000;");
        SalePart far = desk();
        Texts.law(far, 0, "rest 10000; most 99999999;", 0);
        far.rate(0, 0, 99999);
        far.sale(0, 1, 2, 1000, 0, 20000000, 0);
        Due.same("of the highest PRICE", 99999999, far.sold(0, 2, 0));
        Texts.law(far, 0, "rest 10000;", 0);
        Due.same("of the highest PRICE, without 'most'", 1999980000, far.sold(0, 2, 0));
    }

    private static void partNone() {
        Due.by("Promise 18", "2 PART (0)");
        SalePart desk = desk();
        desk.sale(0, 1, 2, 1000, 0, 100, 0);
        Due.same("PART without a LAW", 0, desk.sold(0, 2, 0));
        Due.same("LAW without a LAW", NONE, desk.sold(0, 5, 0));
        Due.same("COUNTS without a LAW", 0, desk.sold(0, 1, 0));
        Due.same("PRICE without a LAW", 100, desk.sold(0, 0, 0));
        Due.same("HELD without a LAW", 0, desk.sold(0, 3, 0));
        Texts.law(desk, 1, "due 1; rest 10000;", 0);
        Due.same("COUNTS with another LAND's", 0, desk.sold(0, 1, 0));
        Texts.law(desk, 0, "due 0; rest 10000;", 0);
        Due.same("PART of what doesn't COUNT", 0, desk.sold(0, 2, 0));
        Texts.law(desk, 0, "due 1; rest 10000;", 0);
        Due.same("PART of what COUNTS", 100, desk.sold(0, 2, 0));
    }

    private static void ofOthersTheLast() {
        Due.by("Terms, LAW", "Of others the last in the text counts; 'agrees' all.");
        part(2, 100, "rest 100; rest 200;");
        part(1, 100, "rest 200; rest 100;");
        part(0, 100, "rest 200; rest 0;");
        part(50, 100, "rest 10000; most 10; most 50;");
        part(10, 100, "rest 10000; most 50; most 10;");
        part(100, 100, "rest 10000; least 101; least 100;");
        part(0, 100, "rest 10000; least 100; least 101;");
        part(30, 100, "step 10 10000; rest 0; step 30 10000;");
        int[][] years = {{0, 2, 1}, {2, 0, 0}, {200, 1, 0}};
        for (int[] one : years) {
            SalePart desk = desk();
            Texts.law(desk, 0, "years " + one[0] + "; years " + one[1] + ";", 0);
            desk.death(0, 600, 600);
            desk.sale(0, 1, 2, 1000, 0, 100, 0);
            Due.same("FOR it by years " + one[0] + ", " + one[1], one[2], desk.has(1, 0, 1, 0));
        }
        for (int last = 0; last <= 1; last++) {
            SalePart desk = desk();
            Texts.law(desk, 0, "rest 10000; claim " + (1 - last) + "; claim " + last + ";", 0);
            desk.sale(0, 1, 2, 1000, 0, 100, 0);
            desk.evenings(1);
            desk.claim(0, 0);
            Due.same("GETS by the last 'claim' " + last, 100 * last, desk.has(0, 0, 3, 1));
        }
    }

    private static void weights() {
        Due.by("Terms, PART", "Of it each ARTIST's: times its weight, by all weights, cut down");
        int[][] due = {{9, 9, 9, 100, 33, 33, 33}, {1, 1, 1, 2, 0, 0, 0}, {1, 1, 1, 3, 1, 1, 1}, {1, 9, 9, 18, 0, 8, 8},
            {1, 9, 9, 19, 1, 9, 9}, {1, 9, 9, 20, 1, 9, 9}, {9, 1, 0, 9, 8, 0, 0}, {9, 1, 0, 10, 9, 1, 0},
            {9, 0, 0, 10, 10, 0, 0}, {1, 0, 0, 1, 1, 0, 0}, {9, 8, 7, 20000000, 7500000, 6666666, 5833333}};
        for (int[] one : due) {
            SalePart desk = Desks.of(1, 5);
            desk.work(0, one[0], 1, 0, 1, 1);
            for (int i = 1; i <= 2 && one[i] > 0; i++) {
                desk.joins(0, i, one[i]);
            }
            Texts.law(desk, 0, "rest 10000;", 0);
            desk.sale(0, 3, 4, 1000, 0, one[3], 0);
            for (int i = 0; i < 3; i++) {
                Due.same("of " + one[3] + " with weight " + one[i], one[4 + i], desk.has(0, i, 0, 0));
            }
            Due.same("PART", one[3], desk.sold(0, 2, 0));
            Due.same("HELD", one[4] + one[5] + one[6], desk.sold(0, 3, 0));
        }
        SalePart most = desk();
        most.joins(0, 3, 9);
        most.rate(0, 0, 99999);
        Texts.law(most, 0, "rest 10000;", 0);
        most.sale(0, 1, 2, 1000, 0, 20000000, 0);
        Due.same("a tenth of the highest PART", 199998000, most.has(0, 0, 0, 0));
        Due.same("nine tenths of the highest PART", 1799982000, most.has(0, 3, 0, 0));
    }

    private static void weightsFor() {
        Due.by("Terms, PART", "by all weights, cut down, if it is FOR it (whether or not it is FOR the others)");
        SalePart desk = desk();
        desk.person(1, 0);
        desk.joins(0, 10, 2);
        desk.joins(0, 3, 1);
        Texts.law(desk, 0, "rest 10000; years 0;", 0);
        desk.death(3, 0, 1000);
        desk.sale(0, 1, 2, 1000, 0, 400, 0);
        int[][] due = {{0, 100, 1}, {10, 0, 0}, {3, 0, 0}};
        for (int[] one : due) {
            Due.same("what is " + one[0] + "'s", one[1], desk.has(1, one[0], 0, 0));
            Due.same("whether it is FOR " + one[0], one[2], desk.has(1, one[0], 1, 0));
            Due.same("what goes to " + one[0], one[1], desk.has(1, one[0], 2, 0));
        }
        Due.same("HELD", 100, desk.sold(1, 3, 0));
    }

    private static void forLands() {
        Due.by("Terms, FOR", "it is of the SALE's LAND, or one that 'agrees'");
        SalePart desk = new SalePart();
        for (int i = 0; i < 6; i++) {
            desk.land();
            desk.person(i, 0);
        }
        desk.person(0, 0);
        for (int i = 0; i < 6; i++) {
            desk.work(i, 1, 1, 0, 1, 1);
        }
        int[][] agreeing = {{}, {0}, {5}, {1, 2}, {0, 1, 2, 3, 4, 5}, {3, 3}};
        for (int i = 0; i < agreeing.length; i++) {
            StringBuilder text = new StringBuilder("due 1; rest 10000;");
            boolean[] due = new boolean[6];
            due[2] = true;
            for (int land : agreeing[i]) {
                text.append("agrees ").append(land).append(";");
                due[land] = true;
            }
            Texts.law(desk, 2, text.toString(), 0);
            for (int artist = 0; artist < 6; artist++) {
                int sale = desk.sale(artist, artist, 6, 1000, 2, 100, 0);
                Due.same("FOR one of LAND " + artist + " by " + text, due[artist] ? 1 : 0, desk.has(sale, artist, 1, 0));
                Due.same("what is its", due[artist] ? 100 : 0, desk.has(sale, artist, 0, 0));
            }
        }
    }

    /** DEATH from 100 to 500: surely, OPEN, not, on the DAYS about each boundary. */
    private static void forSpans() {
        Due.by("Terms, FOR", "the SALE's DAY is ahead of the last DAY of its DEATH and 365 times 'years' behind that. "
                + "It is OPEN, if by the first DAY of its DEATH it wouldn't be.");
        for (int years : new int[] {0, 1, 2, 69, 71}) {
            int first = 100 + 365 * years;
            int last = 500 + 365 * years;
            int[][] due = {{first - 1, 1}, {first, 2}, {first + 1, 2}, {last - 1, 2}, {last, 0}, {last + 1, 0}, {36499, 0}};
            SalePart desk = desk();
            Texts.law(desk, 0, "rest 10000; years " + years + ";", 0);
            desk.death(0, 100, 500);
            for (int i = 0; i < due.length; i++) {
                desk.sale(0, 1, 2, due[i][0], 0, 100, 0);
                Due.same("FOR it on DAY " + due[i][0] + ", years " + years, due[i][1], desk.has(1 + i, 0, 1, 0));
                Due.same("what is its on DAY " + due[i][0], due[i][1] == 0 ? 0 : 100, desk.has(1 + i, 0, 0, 0));
            }
        }
        SalePart one = desk();
        Texts.law(one, 0, "rest 10000; years 1;", 0);
        one.death(0, 500, 500);
        int[][] due = {{864, 1}, {865, 0}, {866, 0}};
        for (int i = 0; i < due.length; i++) {
            one.sale(0, 1, 2, due[i][0], 0, 100, 0);
            Due.same("FOR it on DAY " + due[i][0] + ", one DAY of DEATH", due[i][1], one.has(1 + i, 0, 1, 0));
        }
    }

    private static void forSeventyYears() {
        Due.by("Terms, FOR", "365 times 'years' (70 without) behind that");
        SalePart desk = desk();
        Texts.law(desk, 0, "rest 10000;", 0);
        desk.death(0, 0, 10949);
        int[][] due = {{25549, 1}, {25550, 2}, {36498, 2}, {36499, 0}};
        for (int i = 0; i < due.length; i++) {
            desk.sale(0, 1, 2, due[i][0], 0, 100, 0);
            Due.same("FOR it on DAY " + due[i][0], due[i][1], desk.has(1 + i, 0, 1, 0));
        }
        desk.death(0, 10950, 10950);
        Due.same("FOR it on the last DAY", 1, desk.has(4, 0, 1, 0));
    }

    private static void forTwoHundredYears() {
        Due.by("Terms, FOR", "(or no DEATH is known)");
        SalePart desk = desk();
        Texts.law(desk, 0, "rest 10000; years 200;", 0);
        desk.sale(0, 1, 2, 36499, 0, 100, 0);
        Due.same("FOR it without a DEATH", 1, desk.has(0, 0, 1, 0));
        desk.death(0, 0, 0);
        Due.same("FOR it with the longest years", 1, desk.has(0, 0, 1, 0));
        desk.death(0, 0, 36499);
        Due.same("FOR it with the longest DEATH", 1, desk.has(0, 0, 1, 0));
        Texts.law(desk, 0, "rest 10000; years 0;", 0);
        Due.same("FOR it on the last DAY of DEATH", 0, desk.has(0, 0, 1, 0));
        desk.back(false, 2);
        desk.back(false, 1);
        Due.same("FOR it without a DEATH once more", 1, desk.has(0, 0, 1, 0));
        desk.death(3, 0, 0);
        Due.same("FOR it with another one's DEATH", 1, desk.has(0, 0, 1, 0));
    }

    private static void forNotAnArtist() {
        Due.by("Promise 19", "whether it is FOR it surely (1), not (0), OPEN (2) (what 1; not an ARTIST: 0)");
        SalePart desk = desk(100);
        desk.death(0, 1, 1000);
        desk.heir(0, 3, 1, 1);
        desk.joins(0, 5, 1);
        for (int person = 0; person < 10; person++) {
            Due.same("FOR PERSON " + person, person == 0 ? 1 : 0, desk.has(0, person, 1, 0));
            Due.same("what is PERSON " + person + "'s", person == 0 ? 100 : 0, desk.has(0, person, 0, 0));
            Due.same("what goes to PERSON " + person, person == 3 ? 100 : 0, desk.has(0, person, 2, 0));
        }
    }

    private static void openIsWhole() {
        Due.by("Promise 19", "What of a SALE is a PERSON's as an ARTIST (what 0) (OPEN or surely, it is whole)");
        SalePart desk = desk();
        desk.joins(0, 3, 1);
        Texts.law(desk, 0, "rest 10000; years 0;", 0);
        desk.death(0, 1000, 1001);
        desk.sale(0, 1, 2, 1000, 0, 100, 0);
        Due.same("OPEN", 2, desk.has(1, 0, 1, 0));
        Due.same("what is its", 50, desk.has(1, 0, 0, 0));
        Due.same("what goes to it", 50, desk.has(1, 0, 2, 0));
        Due.same("surely", 1, desk.has(1, 3, 1, 0));
        Due.same("what is its", 50, desk.has(1, 3, 0, 0));
    }

    private static void lawsOfDays() {
        Due.by("Terms, LAWS", "for a DAY the one with the latest beginning that isn't behind it counts");
        SalePart desk = desk();
        int[] days = {0, 99, 100, 101, 199, 200, 201, 36498, 36499};
        for (int day : days) {
            desk.sale(0, 1, 2, day, 0, 10000, 0);
        }
        lawsAre(desk, NONE, NONE, NONE, NONE, NONE, NONE, NONE, NONE, NONE);
        Texts.law(desk, 0, "rest 1;", 100);
        lawsAre(desk, NONE, NONE, 0, 0, 0, 0, 0, 0, 0);
        Texts.law(desk, 0, "rest 2;", 36499);
        lawsAre(desk, NONE, NONE, 0, 0, 0, 0, 0, 0, 1);
        Texts.law(desk, 0, "rest 3;", 200);
        lawsAre(desk, NONE, NONE, 0, 0, 0, 2, 2, 2, 1);
        Texts.law(desk, 0, "rest 4;", 0);
        lawsAre(desk, 3, 3, 0, 0, 0, 2, 2, 2, 1);
        Texts.law(desk, 1, "rest 5;", 100);
        lawsAre(desk, 3, 3, 0, 0, 0, 2, 2, 2, 1);
        desk.back(true, 2);
        lawsAre(desk, 3, 3, 0, 0, 0, 0, 0, 0, 1);
    }

    private static void lawsAre(SalePart desk, int... due) {
        for (int i = 0; i < due.length; i++) {
            Due.same("LAW of SALE " + i + " with " + desk.count(6) + " LAWS", due[i], desk.sold(i, 5, 0));
            Due.same("PART of SALE " + i + " with " + desk.count(6) + " LAWS", due[i] + 1, desk.sold(i, 2, 0));
        }
    }

    private static void withoutAnyOfTwelve() {
        Due.by("Terms, SALE", "without any LAW nothing is DUE (where all twelve begin behind the DAY or are another LAND's)");
        SalePart desk = desk();
        desk.sale(0, 1, 2, 1000, 0, 10000, 0);
        for (int i = 0; i < 12; i++) {
            Texts.law(desk, i % 2, "due 1; rest 10000; agrees 0;", i % 2 == 0 ? 1001 : 0);
            Due.same("the LAW beside LAW " + i, NONE, desk.sold(0, 5, 0));
            Due.same("COUNTS beside LAW " + i, 0, desk.sold(0, 1, 0));
            Due.same("PART beside LAW " + i, 0, desk.sold(0, 2, 0));
            Due.same("the ARTIST's beside LAW " + i, 0, desk.has(0, 0, 0, 0));
        }
    }

    private static void lawsOfLikeDays() {
        Due.by("Terms, LAWS", "of like ones that told last, of those known.");
        SalePart desk = desk();
        desk.sale(0, 1, 2, 100, 0, 10000, 0);
        for (int i = 0; i < 4; i++) {
            Texts.law(desk, 0, "rest " + (1 + i) + ";", 100);
            desk.evenings(1);
        }
        for (int k = 0; k <= 4; k++) {
            Due.same("LAW on EVENING " + k, Math.min(k, 3), desk.sold(0, 5, k));
        }
        desk.back(true, 3);
        desk.evenings(1);
        desk.back(true, 1);
        Due.same("LAW on EVENING 3", 3, desk.sold(0, 5, 3));
        Due.same("LAW on EVENING 4", 2, desk.sold(0, 5, 4));
        Due.same("LAW on EVENING 5", 2, desk.sold(0, 5, 5));
        desk.back(true, 2);
        Due.same("LAW behind another one TAKEN BACK", 0, desk.sold(0, 5, 5));
    }

    private static void collects() {
        Due.by("Promise 18", "4 the society that COLLECTS (also if it does not COUNT; NONE)");
        SalePart desk = desk();
        desk.sale(0, 1, 2, 100, 0, 10000, 0);
        desk.sale(0, 1, 2, 100, 1, 10000, 0);
        int[][] due = {{NONE, NONE}, {NONE, 0}, {1, 0}, {1, 0}, {1, 0}, {1, 0}};
        int[] lands = {1, 0, 0, 1, 0};
        for (int i = 0; i <= 5; i++) {
            Due.same("COLLECTS in LAND 0, " + i + " societies", due[i][0], desk.sold(0, 4, 0));
            Due.same("COLLECTS in LAND 1, " + i + " societies", due[i][1], desk.sold(1, 4, 0));
            if (i < 5) {
                desk.society(lands[i], 0);
            }
        }
        Due.same("it does not COUNT", 0, desk.sold(0, 1, 0));
        Texts.law(desk, 0, "due 1;", 0);
        Due.same("it COUNTS", 1, desk.sold(0, 1, 0));
        Due.same("COLLECTS where it COUNTS", 1, desk.sold(0, 4, 0));
        SalePart last = Desks.ofWork(2, 2);
        last.sale(0, 0, 1, 100, 1, 10000, 0);
        for (int i = 0; i < 5; i++) {
            Due.same("COLLECTS in LAND 1, " + i + " societies in LAND 0", NONE, last.sold(0, 4, 0));
            last.society(i < 4 ? 0 : 1, 0);
        }
        Due.same("COLLECTS in LAND 1, the last of the societies", 4, last.sold(0, 4, 0));
    }

    /** A chain of so many who are DEAD, each the whole HEIR of the one ahead: the next one lives. */
    private static void inEightRounds() {
        Due.by("Terms, GOES ON", "in eight rounds");
        for (int dead = 0; dead <= 9; dead++) {
            goesThrough(dead, 1);
            goesThrough(dead, 100);
        }
        SalePart circle = desk(1024);
        circle.death(0, 0, 0);
        circle.death(3, 0, 0);
        circle.heir(0, 3, 1, 1);
        circle.heir(3, 0, 1, 2);
        circle.heir(3, 4, 1, 2);
        circle.claim(4, 0);
        // Every other round 4 has half: 512, 256, 128, 64.
        Due.same("what leaves a circle in eight rounds", 960, circle.has(0, 4, 2, 0));
        Due.same("what is left in it is HELD", 64, circle.sold(0, 3, 0));
        circle.claim(0, 0);
        circle.claim(3, 0);
        for (int dead = 0; dead <= 3; dead += 3) {
            Due.same("what goes to " + dead + " who is left in it", 0, circle.has(0, dead, 2, 0));
            Due.same("what " + dead + " GETS who is left in it", 0, circle.has(0, dead, 3, 0));
        }
        Due.same("what is HELD beside their CLAIMS", 64, circle.sold(0, 3, 0));
        circle.work(5, 1, 1, 0, 1, 1);
        int other = circle.sale(1, 1, 2, 1000, 0, 7, 0);
        Due.same("what is HELD of another SALE, asked behind it", 7, circle.sold(other, 3, 0));
    }

    /** From PERSON 29 to 0 and from 0 to 29, while they live and when they are DEAD. */
    private static void firstAndLastPerson() {
        Due.by("Terms", "PERSONS, from 0 on, at most 30 (the first and the last as ARTISTS and as HEIRS)");
        for (int artist = 0; artist <= 29; artist += 29) {
            int heir = 29 - artist;
            SalePart desk = Desks.of(1, 30);
            desk.work(artist, 1, 1, 0, 1, 1);
            Texts.law(desk, 0, "rest 10000; years 0;", 0);
            desk.sale(0, 1, 2, 1000, 0, 90, 0);
            desk.society(0, 0);
            desk.heir(artist, heir, 1, 1);
            desk.heir(heir, 14, 1, 1);
            int[] persons = {artist, heir, 14};
            for (int dead = 0; dead <= 2; dead++) {
                for (int i = 0; i <= 2; i++) {
                    Due.same("what goes to " + persons[i], i == dead ? 90 : 0, desk.has(0, persons[i], 2, 0));
                }
                desk.fact(5, 0, persons[dead], 0, 1000);
                Due.same("what " + persons[dead] + " GETS", 90, desk.has(0, persons[dead], 3, 0));
                Due.same("HELD", 0, desk.sold(0, 3, 0));
                desk.death(persons[dead], 0, 1000);
                Due.same("FOR the ARTIST", dead == 0 ? 0 : 1, desk.has(0, artist, 1, 0));
                Texts.law(desk, 0, "rest 10000; years 70;", 0);
            }
        }
    }

    private static void goesThrough(int dead, int part) {
        SalePart desk = desk(part);
        for (int p = 0; p < dead; p++) {
            desk.death(p, 0, 1000);
            desk.heir(p, p + 1, 1, 1);
        }
        Due.same("what goes to who lives behind " + dead, dead <= 8 ? part : 0, desk.has(0, dead, 2, 0));
        for (int p = 0; p < dead; p++) {
            Due.same("what goes to " + p + " of " + dead, 0, desk.has(0, p, 2, 0));
        }
        desk.claim(dead, 0);
        Due.same("what of it is HELD", dead <= 8 ? 0 : part, desk.sold(0, 3, 0));
    }

    /** The chain goes down from PERSON 29, through so many who are DEAD. */
    private static void eightRoundsOfThirty() {
        Due.by("Terms, GOES ON", "in eight rounds (of any of 30 PERSONS)");
        for (int dead = 7; dead <= 10; dead++) {
            SalePart desk = Desks.of(1, 30);
            desk.work(29, 1, 1, 0, 1, 1);
            Texts.law(desk, 0, "rest 10000;", 0);
            desk.sale(0, 0, 1, 1000, 0, 100, 0);
            for (int p = 29; p > 29 - dead; p--) {
                desk.death(p, 0, 1000);
                desk.heir(p, p - 1, 1, 1);
            }
            Due.same("what goes to who lives behind " + dead, dead <= 8 ? 100 : 0, desk.has(0, 29 - dead, 2, 0));
            for (int p = 29; p > 29 - dead; p--) {
                Due.same("what goes to " + p + ", " + dead + " are DEAD", 0, desk.has(0, p, 2, 0));
            }
            desk.claim(29 - dead, 0);
            Due.same("what of it is HELD, " + dead + " are DEAD", dead <= 8 ? 0 : 100, desk.sold(0, 3, 0));
        }
    }

    private static void firstAndLastFacts() {
        Due.by("Terms, FACTS", "FACTS, numbered from 0 on, at most 200 (each KIND counts, whatever its number)");
        for (int turn = 0; turn < 6; turn++) {
            sixFacts(turn, 0, 0);
            sixFacts(turn, 194, 0);
        }
    }

    private static void firstAndLastEvening() {
        Due.by("Terms", "EVENINGS from 0 to 999 (each KIND counts, on whichever it is told)");
        for (int evening : new int[] {0, 1, 29, 30, 31, 998, 999}) {
            sixFacts(0, 0, evening);
        }
    }

    /** One FACT of each KIND, from the KIND turn on, behind so many others, told on an EVENING. */
    private static void sixFacts(int turn, int first, int evening) {
        SalePart desk = desk();
        desk.evenings(evening);
        desk.work(9, 1, 1, 0, 1, 1);
        desk.society(1, 100);
        Texts.law(desk, 0, "rest 10000;", 0);
        for (int i = 0; i < first; i++) {
            desk.fact(4, 1, 9, 0, 0);
        }
        int sale = NONE;
        for (int i = 0; i < 6; i++) {
            int kind = (i + turn) % 6;
            Due.same("FACT of KIND " + kind, first + i, tellOfOne(desk, kind));
            sale = kind == 2 ? first + i : sale;
        }
        String order = ", from KIND " + turn + " on, from FACT " + first + " on, on EVENING " + evening;
        Due.same("'held'" + order, 100, desk.sold(sale, 6, evening));
        Due.same("'again'" + order, 0, desk.sold(sale, 7, evening));
        Due.same("what goes to the HEIR" + order, 50, desk.has(sale, 3, 2, evening));
        Due.same("what the HEIR GETS" + order, 45, desk.has(sale, 3, 3, evening));
        Due.same("HELD" + order, 50, desk.sold(sale, 3, evening));
        Due.same("with whom it is" + order, 5, desk.with(0, 36499, evening));
        Due.same("HIDDEN" + order, 1, desk.hidden(0, NONE, 0, evening));
    }

    /** PERSON 0 is DEAD, 3 its HEIR with a MANDATE; 1 was given the WORK, sold it to 2; it was SEEN with 5. */
    private static int tellOfOne(SalePart desk, int kind) {
        switch (kind) {
            case 0:
                return desk.death(0, 0, 1000);
            case 1:
                return desk.heir(0, 3, 1, 2);
            case 2:
                return desk.sale(0, 1, 2, 1000, 0, 100, 0);
            case 3:
                return desk.fact(3, 0, 0, 1, 900);
            case 4:
                return desk.fact(4, 0, 5, 0, 2000);
            default:
                return desk.fact(5, 0, 3, 0, 1000);
        }
    }

    private static void eachPartCutDown() {
        Due.by("Terms, GOES ON", "to each p of q of it, cut down, and what is left of it is HELD");
        int[][] due = {{100, 1, 3, 33}, {2, 1, 3, 0}, {3, 1, 3, 1}, {100, 11, 12, 91}, {1, 11, 12, 0}, {100, 12, 12, 100},
            {12, 1, 12, 1}, {11, 1, 12, 0}, {20000000, 11, 12, 18333333}, {1, 1, 1, 1}};
        for (int[] one : due) {
            SalePart desk = desk(one[0]);
            desk.death(0, 0, 0);
            desk.heir(0, 3, one[1], one[2]);
            desk.claim(3, 0);
            Due.same(one[1] + " of " + one[2] + " of " + one[0], one[3], desk.has(0, 3, 2, 0));
            Due.same("what is left", one[0] - one[3], desk.sold(0, 3, 0));
        }
        SalePart most = desk(20000000);
        most.rate(0, 0, 99999);
        most.death(0, 0, 0);
        most.heir(0, 3, 11, 12);
        Due.same("11 of 12 of the highest PART", 1833315000, most.has(0, 3, 2, 0));
        SalePart three = desk(100);
        three.death(0, 0, 0);
        for (int heir = 3; heir <= 5; heir++) {
            three.heir(0, heir, 1, 3);
            three.claim(heir, 0);
            Due.same("a third of 100", 33, three.has(0, heir, 2, 0));
        }
        Due.same("what three thirds leave", 1, three.sold(0, 3, 0));
    }

    /** Of two ARTISTS who are DEAD, each the HEIR of the other: all goes at once, nothing twice in a round. */
    private static void allAtOnce() {
        Due.by("Terms, GOES ON", "all goes at once");
        SalePart desk = desk();
        desk.joins(0, 3, 3);
        Texts.law(desk, 0, "rest 10000;", 0);
        desk.sale(0, 1, 2, 1000, 0, 400, 0);
        desk.death(0, 0, 0);
        desk.death(3, 0, 0);
        desk.heir(0, 3, 1, 2);
        desk.heir(0, 4, 1, 2);
        desk.heir(3, 0, 1, 3);
        desk.heir(3, 5, 2, 3);
        // 0 has 100, 300/3, 50/3, 50/2 ..: 100, 100, 16, 16, 2, 2, 0; 3 has 300, 50, 50, 8, 8, 1, 1, 0.
        Due.same("what goes to 4", 50 + 50 + 8 + 8 + 1 + 1, desk.has(0, 4, 2, 0));
        Due.same("what goes to 5", 200 + 33 + 33 + 5 + 5, desk.has(0, 5, 2, 0));
        desk.claim(4, 0);
        desk.claim(5, 0);
        Due.same("HELD", 400 - 118 - 276, desk.sold(0, 3, 0));
    }

    private static void deadWithoutHeirs() {
        Due.by("Terms, GOES ON", "What one has behind them goes to that one, if it isn't DEAD; else it is HELD.");
        for (int day = 999; day <= 1001; day++) {
            SalePart desk = desk(100);
            desk.society(0, 0);
            desk.fact(5, 0, 0, 0, 0);
            desk.claim(0, 0);
            desk.death(0, 0, day);
            boolean dead = day <= 1000;
            Due.same("what is its, DEAD from " + day, 100, desk.has(0, 0, 0, 0));
            Due.same("what goes to it, DEAD from " + day, dead ? 0 : 100, desk.has(0, 0, 2, 0));
            Due.same("what it GETS, DEAD from " + day, dead ? 0 : 100, desk.has(0, 0, 3, 0));
            Due.same("HELD, DEAD from " + day, dead ? 100 : 0, desk.sold(0, 3, 0));
        }
    }

    private static void heirsWhoLive() {
        Due.by("Terms, GOES ON", "in a round all that each one who is DEAD on the SALE's DAY has by then goes to its HEIRS");
        for (int day = 999; day <= 1001; day++) {
            SalePart desk = desk(100);
            desk.heir(0, 3, 1, 1);
            desk.heir(3, 4, 1, 1);
            desk.death(0, 0, 0);
            desk.death(3, 0, day);
            Due.same("an HEIR, DEAD from " + day, day <= 1000 ? 0 : 100, desk.has(0, 3, 2, 0));
            Due.same("the HEIR of an HEIR, DEAD from " + day, day <= 1000 ? 100 : 0, desk.has(0, 4, 2, 0));
        }
        SalePart beside = desk();
        beside.joins(0, 3, 1);
        Texts.law(beside, 0, "rest 10000;", 0);
        beside.sale(0, 1, 2, 1000, 0, 200, 0);
        beside.death(0, 0, 1000);
        beside.death(5, 0, 1000);
        beside.heir(0, 5, 1, 1);
        beside.heir(5, 3, 1, 2);
        beside.heir(5, 6, 1, 2);
        beside.heir(3, 7, 1, 1);
        beside.heir(6, 8, 1, 1);
        int[] due = {0, 0, 0, 150, 0, 0, 50, 0, 0};
        for (int p = 0; p < due.length; p++) {
            Due.same("what goes to " + p + ", some live and have HEIRS", due[p], beside.has(0, p, 2, 0));
        }
    }

    private static void mandateDays() {
        Due.by("Terms, SOCIETIES", "a MANDATE (the last told of those from a DAY that isn't behind the SALE's)");
        for (int day : new int[] {0, 999, 1000, 1001, 36499}) {
            SalePart desk = desk(100);
            desk.society(0, 100);
            desk.fact(5, 0, 0, 0, day);
            Due.same("GETS by a MANDATE from " + day, day <= 1000 ? 90 : 0, desk.has(0, 0, 3, 0));
            Due.same("HELD by a MANDATE from " + day, day <= 1000 ? 0 : 100, desk.sold(0, 3, 0));
        }
    }

    private static void mandateToldLast() {
        Due.by("Terms, SOCIETIES", "a MANDATE (the last told of those ..)");
        SalePart desk = desk(1000);
        for (int i = 0; i < 5; i++) {
            desk.society(i % 2, 10 * i);
        }
        int[] days = {1000, 0, 1001, 500, 999};
        int[] due = {1000, 990, 990, 970, 960};
        for (int i = 0; i < 5; i++) {
            desk.evenings(1);
            desk.fact(5, 0, 0, i, days[i]);
            Due.same("GETS by MANDATE " + i, due[i], desk.has(0, 0, 3, i + 1));
            Due.same("GETS as known ahead", i == 0 ? 0 : due[i - 1], desk.has(0, 0, 3, i));
        }
        for (int i = 4; i >= 0; i--) {
            desk.back(false, i + 1);
            Due.same("GETS without MANDATE " + i, i == 0 ? 0 : due[i - 1], desk.has(0, 0, 3, 5));
        }
    }

    private static void fees() {
        Due.by("Terms, SOCIETIES", "its society's fee (what goes to it of the SALE times the fee, by 1000, cut down)");
        int[][] due = {{0, 1000, 1000}, {1, 999, 999}, {1, 1000, 999}, {1, 1001, 1000}, {1, 1999, 1998}, {1, 2000, 1998},
            {300, 1, 1}, {300, 3, 3}, {300, 4, 3}, {300, 10, 7}, {300, 20000000, 14000000}, {299, 20000000, 14020000},
            {7, 142, 142}, {7, 143, 142}};
        for (int[] one : due) {
            SalePart desk = desk(one[1]);
            desk.society(1, one[0]);
            desk.fact(5, 0, 0, 0, 0);
            Due.same("GETS of " + one[1] + " by a fee of " + one[0], one[2], desk.has(0, 0, 3, 0));
            Due.same("what goes to it", one[1], desk.has(0, 0, 2, 0));
            Due.same("HELD", 0, desk.sold(0, 3, 0));
        }
        SalePart most = desk(20000000);
        most.rate(0, 0, 99999);
        most.society(0, 300);
        most.fact(5, 0, 0, 0, 0);
        Due.same("GETS of the highest PART", 1399986000, most.has(0, 0, 3, 0));
    }

    private static void claimsInTime() {
        Due.by("Terms, SOCIETIES", "in time, if that is no more than 'claim' EVENINGS behind that on which the SALE was told.");
        for (int time : new int[] {0, 1, 2, 299, 301, 990}) {
            for (int behind = Math.max(0, time - 1); behind <= time + 1; behind++) {
                SalePart desk = desk();
                Texts.law(desk, 0, "rest 10000; claim " + time + ";", 0);
                desk.evenings(5);
                desk.sale(0, 1, 2, 1000, 0, 100, 0);
                desk.evenings(behind);
                Due.yes("claim", desk.claim(0, 0));
                Due.same("GETS, claimed " + behind + " behind, claim " + time, behind <= time ? 100 : 0,
                        desk.has(0, 0, 3, 5 + behind));
                Due.same("HELD", behind <= time ? 0 : 100, desk.sold(0, 3, 5 + behind));
            }
        }
        SalePart far = desk();
        Texts.law(far, 0, "rest 10000; claim 99999999;", 0);
        far.sale(0, 1, 2, 1000, 0, 100, 0);
        far.evenings(999);
        far.claim(0, 0);
        Due.same("GETS on the last EVENING", 100, far.has(0, 0, 3, 999));
    }

    private static void noClaim() {
        Due.by("Terms, SOCIETIES", "is HELD, if it has no MANDATE and no CLAIM in time (on any EVENING)");
        SalePart desk = desk(100);
        for (int evening : new int[] {1, 500, 998, 999}) {
            desk.evenings(evening - desk.count(0));
            int sale = desk.sale(0, 1, 2, 1000, 0, 70, 0);
            Due.same("GETS on EVENING " + evening, 0, desk.has(0, 0, 3, evening));
            Due.same("HELD on EVENING " + evening, 100, desk.sold(0, 3, evening));
            Due.same("GETS of a SALE of EVENING " + evening, 0, desk.has(sale, 0, 3, evening));
            Due.same("HELD of a SALE of EVENING " + evening, 70, desk.sold(sale, 3, evening));
        }
    }

    /** PERSONS 1 to 29 have CLAIMS on seven SALES, and the ARTIST, PERSON 0, on all but the last. */
    private static void noneOfAllClaims() {
        Due.by("Terms, SOCIETIES", "is HELD, if it has .. no CLAIM in time (of 200 on all SALES and by all PERSONS)");
        SalePart desk = Desks.ofWork(1, 30);
        Texts.law(desk, 0, "rest 10000;", 0);
        int claims = 0;
        for (int sale = 0; sale < 7; sale++) {
            desk.sale(0, 1, 2, 1000, 0, 100, 0);
            for (int person = sale < 6 ? 0 : 1; person < 30 && claims < 200; person++) {
                Due.yes("CLAIM of " + person + " on " + sale, desk.claim(person, sale));
                Due.same("GETS of " + sale, sale < 6 ? 100 : 0, desk.has(sale, 0, 3, 0));
                claims++;
            }
        }
        Due.same("CLAIMS", 200, desk.count(7));
        Due.same("HELD of the last SALE", 100, desk.sold(6, 3, 0));
        Due.same("HELD of the first SALE", 0, desk.sold(0, 3, 0));
    }

    private static void claimsWithoutClause() {
        Due.by("Terms, SOCIETIES", "'claim' (300 without)");
        for (int behind = 299; behind <= 301; behind++) {
            SalePart desk = desk();
            Texts.law(desk, 0, "rest 10000;", 0);
            desk.evenings(1);
            desk.sale(0, 1, 2, 1000, 0, 100, 0);
            desk.evenings(behind);
            desk.claim(0, 0);
            Due.same("GETS, claimed " + behind + " behind", behind <= 300 ? 100 : 0, desk.has(0, 0, 3, 1 + behind));
        }
    }

    private static void claimKnown() {
        Due.by("Terms, SOCIETIES", "CLAIMS (AS KNOWN: those told on k or ahead): of a PERSON on a SALE");
        SalePart desk = desk(100);
        desk.sale(0, 1, 2, 1000, 0, 70, 0);
        desk.evenings(4);
        desk.claim(0, 0);
        desk.claim(3, 1);
        desk.evenings(1);
        int[] due = {0, 0, 0, 0, 100, 100};
        for (int k = 0; k <= 5; k++) {
            Due.same("GETS on EVENING " + k, due[k], desk.has(0, 0, 3, k));
            Due.same("HELD on EVENING " + k, 100 - due[k], desk.sold(0, 3, k));
            Due.same("GETS of the other SALE on EVENING " + k, 0, desk.has(1, 0, 3, k));
            Due.same("GETS by the CLAIM of another one on EVENING " + k, 70, desk.sold(1, 3, k));
        }
    }

    /** Each CLAIM on its own EVENING; by 'claim 3' those of EVENINGS 0 to 3 are in time. */
    private static void claimsEachOnItsEvening() {
        Due.by("Terms, SOCIETIES", "CLAIMS: of a PERSON on a SALE, told on an EVENING (each one's own)");
        SalePart desk = desk();
        desk.joins(0, 3, 1);
        desk.joins(0, 4, 1);
        Texts.law(desk, 0, "rest 10000; claim 3;", 0);
        desk.sale(0, 1, 2, 1000, 0, 30, 0);
        desk.sale(0, 1, 2, 1000, 0, 60, 0);
        int[][] claims = {{3, 1}, {0, 0}, {4, 1}, {3, 0}, {0, 1}, {4, 0}};
        for (int[] claim : claims) {
            desk.claim(claim[0], claim[1]);
            desk.evenings(1);
        }
        for (int k = 0; k <= 6; k++) {
            int held = 0;
            for (int i = 0; i < claims.length; i++) {
                int part = claims[i][1] == 0 ? 10 : 20;
                int due = i <= k && i <= 3 ? part : 0;
                Due.same("GETS by CLAIM " + i + " on EVENING " + k, due, desk.has(claims[i][1], claims[i][0], 3, k));
                held += part - due;
            }
            Due.same("HELD on EVENING " + k, held, desk.sold(0, 3, k) + desk.sold(1, 3, k));
        }
    }

    private static void claimBesideMandate() {
        Due.by("Terms, SOCIETIES", "by a CLAIM (without a MANDATE) all.");
        SalePart desk = desk(1000);
        desk.society(1, 300);
        desk.claim(0, 0);
        Due.same("by a CLAIM", 1000, desk.has(0, 0, 3, 0));
        desk.fact(5, 0, 0, 0, 1001);
        Due.same("by a CLAIM beside a MANDATE from a later DAY", 1000, desk.has(0, 0, 3, 0));
        desk.fact(5, 0, 0, 0, 1000);
        Due.same("by a CLAIM and a MANDATE", 700, desk.has(0, 0, 3, 0));
        desk.back(false, 2);
        Due.same("by a CLAIM behind a MANDATE that is TAKEN BACK", 1000, desk.has(0, 0, 3, 0));
    }

    private static void heldIsWhatNobodyGets() {
        Due.by("Promise 18", "3 what is HELD of it");
        SalePart desk = desk();
        desk.society(0, 300);
        desk.joins(0, 3, 1);
        desk.joins(0, 4, 1);
        Texts.law(desk, 0, "rest 10000;", 0);
        desk.sale(0, 1, 2, 1000, 0, 100, 0);
        Due.same("of 100 in thirds", 99, desk.sold(0, 3, 0));
        desk.fact(5, 0, 0, 0, 0);
        Due.same("beside a MANDATE", 66, desk.sold(0, 3, 0));
        desk.claim(3, 0);
        Due.same("beside a CLAIM", 33, desk.sold(0, 3, 0));
        desk.death(4, 0, 0);
        Due.same("of who is DEAD", 33, desk.sold(0, 3, 0));
        desk.heir(4, 5, 1, 2);
        Due.same("of an HEIR without a CLAIM", 33, desk.sold(0, 3, 0));
        desk.claim(5, 0);
        Due.same("beside an HEIR's CLAIM", 17, desk.sold(0, 3, 0));
        desk.heir(4, 0, 1, 2);
        Due.same("beside an HEIR's MANDATE", 1, desk.sold(0, 3, 0));
        Due.same("what the HEIR GETS of all", 49 - 14, desk.has(0, 0, 3, 0));
    }
}
