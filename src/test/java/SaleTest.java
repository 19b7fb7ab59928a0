/** Promises 18 and 19: what is told of one SALE, and what of it is a PERSON's. */
public final class SaleTest {
    private static final int NONE = SalePart.NONE;

    private SaleTest() {
    }

    public static void main(String[] args) {
        exceptions();
        unknown();
        steps();
        lawsOfDays();
        lawsOfEvenings();
        withoutLaw();
        held();
        heldByNumber();
        again();
        collects();
        shares();
        spans();
        agreed();
        goesOn();
        goesOnWhole();
        goesOnAtOnce();
        eightRounds();
        circle();
        mandates();
        claims();
        heldInAll();
        Due.end();
    }

    /** Two LANDS, ten PERSONS of LAND 0, a WORK of PERSON 0. */
    private static SalePart desk() {
        SalePart desk = new SalePart();
        desk.land();
        desk.land();
        for (int i = 0; i < 10; i++) {
            desk.person(0, 0);
        }
        desk.work(0, 1, 1, 0, 1, 1);
        return desk;
    }

    /** With a SALE, FACT 0, of which PERSON 0 has a PART of so much. */
    private static SalePart desk(int part) {
        SalePart desk = desk();
        Texts.law(desk, 0, "rest 10000;", 0);
        desk.sale(0, 1, 2, 1000, 0, part, 0);
        return desk;
    }

    private static void exceptions() {
        SalePart desk = desk(100);
        desk.fact(4, 0, 0, 0, 0);
        for (int sale : new int[] {-1, 1, 2, Integer.MAX_VALUE, Integer.MIN_VALUE}) {
            Due.isMissing("sold of no SALE", () -> desk.sold(sale, 0, 0));
            Due.isMissing("has of no SALE", () -> desk.has(sale, 0, 0, 0));
        }
        Due.isMissing("sold, what -1", () -> desk.sold(0, -1, 0));
        Due.isMissing("sold, what 8", () -> desk.sold(0, 8, 1));
        Due.isRefused("sold, EVENING -1", () -> desk.sold(0, 0, -1));
        Due.isRefused("sold, EVENING 1", () -> desk.sold(0, 7, 1));
        Due.isMissing("has of nobody", () -> desk.has(0, 10, 0, 0));
        Due.isMissing("has of PERSON -1", () -> desk.has(0, -1, 0, 1));
        Due.isMissing("has, what -1", () -> desk.has(0, 0, -1, 0));
        Due.isMissing("has, what 4", () -> desk.has(0, 0, 4, 1));
        Due.isRefused("has, EVENING -1", () -> desk.has(0, 0, 0, -1));
        Due.isRefused("has, EVENING 1", () -> desk.has(0, 0, 3, 1));
    }

    private static void unknown() {
        SalePart desk = desk();
        Texts.law(desk, 0, "rest 10000;", 0);
        desk.evenings(1);
        desk.sale(0, 1, 2, 1000, 0, 50, 0);
        for (int what = 0; what <= 7; what++) {
            Due.same("sold, what " + what + ", not yet known", NONE, desk.sold(0, what, 0));
        }
        for (int what = 0; what <= 3; what++) {
            Due.same("has, what " + what + ", not yet known", 0, desk.has(0, 0, what, 0));
        }
        Due.same("PART as known then", 50, desk.sold(0, 2, 1));
    }

    private static void part(int part, int price, String text) {
        SalePart desk = desk();
        Texts.law(desk, 0, text, 0);
        desk.sale(0, 1, 2, 1000, 0, price, 0);
        Due.same("PART of " + price + " by " + text, part, desk.sold(0, 2, 0));
    }

    private static void steps() {
        part(0, 5000, "");
        part(0, 5000, "due 1;");
        part(250, 5000, "rest 500;");
        part(20000000, 20000000, "rest 10000;");
        part(0, 1, "rest 9999;");
        part(1, 2, "rest 9999;");
        String text = "step 1000 500; step 3000 200; rest 100;";
        part(0, 19, text);
        part(1, 20, text);
        part(50, 1000, text);
        part(50, 1049, text);
        part(51, 1050, text);
        part(90, 3000, text);
        part(110, 5000, text);
        part(0, 5, "step 10 1; step 20 10000; rest 10000;");
        part(0, 10, "step 10 1; step 20 10000; rest 10000;");
        // Parts of a coin from two steps come to one: 999 * 10 + 999 * 10.
        part(1, 1998, "step 999 5; step 1998 6;");
        part(90, 5000, "step 1000 500; step 3000 200;");
        part(90, 5000, "step 1000 500; due 1; step 3000 200; rest 100; rest 0;");
        part(100, 5000, "most 100; step 1000 500; step 3000 200; rest 100;");
        part(100, 3000, "step 2000 0; step 99999999 1000;");
    }

    private static void lawsOfDays() {
        SalePart desk = desk();
        Texts.law(desk, 0, "rest 1;", 100);
        Texts.law(desk, 0, "rest 2;", 200);
        Texts.law(desk, 0, "rest 3;", 150);
        Texts.law(desk, 1, "rest 4;", 160);
        Texts.law(desk, 0, "rest 5;", 200);
        int[] days = {99, 100, 149, 150, 199, 200, 36499};
        int[] laws = {NONE, 0, 0, 2, 2, 4, 4};
        for (int i = 0; i < days.length; i++) {
            desk.sale(0, 1, 2, days[i], 0, 10000, 0);
            Due.same("LAW for DAY " + days[i], laws[i], desk.sold(i, 5, 0));
        }
        Due.same("PART by it", 5, desk.sold(6, 2, 0));
        desk.sale(0, 1, 2, 250, 1, 10000, 0);
        Due.same("the other LAND's LAW", 3, desk.sold(7, 5, 0));
    }

    private static void lawsOfEvenings() {
        SalePart desk = desk();
        desk.sale(0, 1, 2, 500, 0, 10000, 0);
        desk.evenings(1);
        Texts.law(desk, 0, "rest 1;", 100);
        desk.evenings(1);
        Texts.law(desk, 0, "rest 2;", 200);
        desk.evenings(1);
        desk.back(true, 1);
        desk.evenings(1);
        desk.back(true, 0);
        int[] laws = {NONE, 0, 1, 0, NONE};
        int[] parts = {0, 1, 2, 1, 0};
        for (int k = 0; k < laws.length; k++) {
            Due.same("LAW as known on EVENING " + k, laws[k], desk.sold(0, 5, k));
            Due.same("PART as known on EVENING " + k, parts[k], desk.sold(0, 2, k));
            Due.same("whether it COUNTS on EVENING " + k, laws[k] == NONE ? 0 : 1, desk.sold(0, 1, k));
        }
    }

    private static void withoutLaw() {
        SalePart desk = desk();
        desk.society(0, 0);
        desk.fact(3, 0, 9, 1, 400);
        desk.sale(0, 1, 2, 500, 0, 10000, 0);
        int[] due = {10000, 0, 0, 0, 0, NONE, 100, 0};
        for (int what = 0; what < due.length; what++) {
            Due.same("sold, what " + what + ", without a LAW", due[what], desk.sold(1, what, 0));
        }
        for (int what = 0; what <= 3; what++) {
            Due.same("has, what " + what + ", without a LAW", 0, desk.has(1, 0, what, 0));
        }
    }

    private static void held() {
        SalePart desk = desk();
        int sale = desk.sale(0, 1, 2, 1000, 0, 1, 0);
        Due.same("'held' where nothing is told", 99999, desk.sold(sale, 6, 0));
        desk.fact(4, 0, 1, 0, 990);
        Due.same("'held' by SEEN", 99999, desk.sold(sale, 6, 0));
        desk.fact(3, 0, 5, 1, 1000);
        Due.same("'held' by a GIFT on the DAY itself", 99999, desk.sold(sale, 6, 0));
        desk.fact(3, 0, 5, 1, 300);
        Due.same("'held' by a GIFT", 700, desk.sold(sale, 6, 0));
        desk.sale(0, 5, 1, 0, 0, 1, 0);
        Due.same("'held' by the last one", 700, desk.sold(sale, 6, 0));
        desk.sale(0, 5, 1, 999, 1, 1, 0);
        Due.same("'held' by a SALE in another LAND", 1, desk.sold(sale, 6, 0));
        desk.work(0, 1, 1, 0, 1, 1);
        int other = desk.sale(1, 1, 2, 1000, 0, 1, 0);
        Due.same("'held' of another WORK", 99999, desk.sold(other, 6, 0));
        desk.evenings(1);
        desk.fact(3, 0, 1, 6, 999);
        Due.same("'held', though it was given on", 1, desk.sold(sale, 6, 1));
        desk.back(false, 5);
        Due.same("'held' behind a SALE TAKEN BACK", 700, desk.sold(sale, 6, 1));
        Due.same("'held' as known ahead of that", 1, desk.sold(sale, 6, 0));
    }

    /** 'from' where the seller got it twice on one DAY: by what was told last. */
    private static void heldByNumber() {
        SalePart desk = desk();
        Texts.law(desk, 0, "due from;", 0);
        int sale = desk.sale(0, 1, 2, 1000, 0, 1, 0);
        Due.same("'from' where nothing is told", 0, desk.sold(sale, 1, 0));
        desk.fact(3, 0, 5, 1, 300);
        Due.same("'from' another one", 0, desk.sold(sale, 1, 0));
        desk.fact(3, 0, 0, 1, 300);
        Due.same("'from' the ARTIST", 1, desk.sold(sale, 1, 0));
        desk.sale(0, 6, 1, 300, 0, 1, 0);
        Due.same("'from' another one once more", 0, desk.sold(sale, 1, 0));
        desk.fact(3, 0, 0, 1, 299);
        Due.same("'from' the ARTIST, but ahead", 0, desk.sold(sale, 1, 0));
        desk.sale(0, 0, 1, 301, 0, 1, 0);
        Due.same("'from' the ARTIST by a SALE", 1, desk.sold(sale, 1, 0));
    }

    private static void again() {
        SalePart desk = desk();
        int sale = desk.sale(0, 1, 2, 1000, 0, 1, 0);
        int[] days = {634, 635, 999, 1000, 1001};
        int[] due = {0, 1, 2, 2, 2};
        for (int i = 0; i < days.length; i++) {
            desk.sale(0, 3, 4, days[i], 1, 1, 0);
            Due.same("'again' with a SALE on DAY " + days[i], due[i], desk.sold(sale, 7, 0));
        }
        desk.fact(3, 0, 3, 4, 900);
        desk.fact(4, 0, 3, 4, 900);
        desk.work(0, 1, 1, 0, 1, 1);
        desk.sale(1, 3, 4, 900, 0, 1, 0);
        Due.same("'again' with others", 2, desk.sold(sale, 7, 0));
        desk.evenings(1);
        desk.back(false, 2);
        Due.same("'again' behind one TAKEN BACK", 1, desk.sold(sale, 7, 1));
        Due.same("'again' as known ahead", 2, desk.sold(sale, 7, 0));
        Due.same("'again' of an early SALE", 0, desk.sold(desk.sale(0, 1, 2, 0, 0, 1, 0), 7, 1));
    }

    private static void collects() {
        SalePart desk = desk(100);
        Due.same("no society", NONE, desk.sold(0, 4, 0));
        desk.society(1, 0);
        Due.same("none of the LAND", NONE, desk.sold(0, 4, 0));
        desk.evenings(1);
        desk.society(0, 0);
        desk.society(0, 0);
        Due.same("that of the least number", 1, desk.sold(0, 4, 0));
        int none = desk.sale(0, 0, 2, 1000, 0, 100, 0);
        Due.same("it does not COUNT", 0, desk.sold(none, 1, 1));
        Due.same("also where it does not COUNT", 1, desk.sold(none, 4, 1));
    }

    private static void shares() {
        SalePart desk = desk();
        desk.joins(0, 1, 2);
        desk.joins(0, 2, 9);
        Texts.law(desk, 0, "rest 10000;", 0);
        desk.sale(0, 3, 4, 1000, 0, 1000, 0);
        int[] due = {83, 166, 750, 0};
        for (int p = 0; p < due.length; p++) {
            Due.same("what is PERSON " + p + "'s", due[p], desk.has(0, p, 0, 0));
            Due.same("whether it is FOR PERSON " + p, p < 3 ? 1 : 0, desk.has(0, p, 1, 0));
            Due.same("what goes to PERSON " + p, due[p], desk.has(0, p, 2, 0));
            Due.same("what PERSON " + p + " GETS", 0, desk.has(0, p, 3, 0));
        }
        Due.same("HELD is what has nobody to get it", 999, desk.sold(0, 3, 0));
        desk.sale(0, 1, 4, 1001, 0, 1000, 0);
        Due.same("an ARTIST sells: it does not COUNT", 0, desk.has(1, 0, 1, 0));
    }

    private static void status(int due, int day, String text) {
        SalePart desk = desk();
        Texts.law(desk, 0, text, 0);
        desk.sale(0, 1, 2, day, 0, 1000, 0);
        desk.death(0, 100, 500);
        Due.same("whether FOR it on DAY " + day + " by " + text, due, desk.has(0, 0, 1, 0));
        Due.same("what is its on DAY " + day + " by " + text, due == 0 ? 0 : 1000, desk.has(0, 0, 0, 0));
    }

    private static void spans() {
        String text = "rest 10000; years 2;";
        status(1, 0, text);
        status(1, 829, text);
        status(2, 830, text);
        status(2, 1229, text);
        status(0, 1230, text);
        status(0, 36499, text);
        status(1, 99, "years 0; rest 10000;");
        status(2, 100, "years 0; rest 10000;");
        status(2, 499, "years 0; rest 10000;");
        status(0, 500, "years 0; rest 10000;");
        status(1, 25649, "rest 10000;");
        status(2, 25650, "rest 10000;");
        status(2, 26049, "rest 10000;");
        status(0, 26050, "rest 10000;");
        status(1, 36499, "rest 10000; years 200;");
    }

    private static void agreed() {
        SalePart desk = desk();
        desk.land();
        desk.person(1, 0);
        desk.person(2, 0);
        desk.joins(0, 10, 1);
        desk.joins(0, 11, 1);
        desk.sale(0, 3, 4, 1000, 0, 300, 0);
        int[][] due = {{1, 0, 0}, {1, 0, 1}, {1, 1, 1}, {1, 1, 0}};
        String[] texts = {"rest 10000;", "agrees 2; rest 10000;", "agrees 2; rest 10000; agrees 1;",
            "agrees 1; agrees 1; agrees 0; rest 10000;"};
        for (int i = 0; i < texts.length; i++) {
            Texts.law(desk, 0, texts[i], i);
            for (int j = 0; j < 3; j++) {
                int person = j == 0 ? 0 : 9 + j;
                Due.same("whether FOR " + person + " by " + texts[i], due[i][j], desk.has(0, person, 1, 0));
                Due.same("what is " + person + "'s by " + texts[i], 100 * due[i][j], desk.has(0, person, 0, 0));
            }
        }
        desk.sale(0, 3, 4, 1001, 1, 300, 0);
        Texts.law(desk, 1, "rest 10000;", 0);
        Due.same("in LAND 1 it is not FOR PERSON 0", 0, desk.has(1, 0, 1, 0));
        Due.same("in LAND 1 it is FOR PERSON 10", 1, desk.has(1, 10, 1, 0));
        Due.same("HELD is only what is FOR one", 100, desk.sold(1, 3, 0));
    }

    private static void goesOn() {
        SalePart desk = desk(100);
        Due.same("it lives", 100, desk.has(0, 0, 2, 0));
        desk.heir(0, 1, 1, 3);
        desk.heir(0, 2, 1, 2);
        Due.same("HEIRS of one who lives", 0, desk.has(0, 1, 2, 0));
        desk.death(0, 5, 1001);
        Due.same("not yet DEAD", 100, desk.has(0, 0, 2, 0));
        desk.evenings(1);
        desk.death(0, 5, 1000);
        int[] due = {0, 33, 50, 0};
        for (int p = 0; p < due.length; p++) {
            Due.same("what goes to PERSON " + p, due[p], desk.has(0, p, 2, 1));
        }
        Due.same("what is its as an ARTIST", 100, desk.has(0, 0, 0, 1));
        Due.same("as known ahead", 100, desk.has(0, 0, 2, 0));
        desk.claim(1, 0);
        desk.claim(2, 0);
        Due.same("HELD is what is left", 17, desk.sold(0, 3, 1));
        desk.evenings(1);
        desk.back(false, 2);
        Due.same("an HEIR TAKEN BACK", 0, desk.has(0, 2, 2, 2));
        Due.same("more is HELD", 67, desk.sold(0, 3, 2));
        Due.same("HELD as known ahead", 17, desk.sold(0, 3, 1));
        desk.heir(0, 1, 1, 3);
        Due.same("two parts of one HEIR, each cut down", 66, desk.has(0, 1, 2, 2));
    }

    /** One coin, and the last PERSON there may be. */
    private static void goesOnWhole() {
        SalePart desk = desk();
        for (int i = 10; i < 30; i++) {
            desk.person(0, 0);
        }
        desk.heir(29, 0, 1, 1);
        desk.heir(0, 28, 1, 1);
        desk.heir(28, 29, 1, 1);
        desk.work(29, 1, 1, 0, 1, 1);
        Texts.law(desk, 0, "rest 10000;", 0);
        desk.sale(1, 1, 2, 1000, 0, 1, 0);
        desk.death(29, 1, 1);
        Due.same("the only coin goes on", 1, desk.has(3, 0, 2, 0));
        Due.same("and not to who is DEAD", 0, desk.has(3, 29, 2, 0));
        desk.back(false, 4);
        desk.sale(0, 1, 2, 1000, 0, 1, 0);
        desk.death(0, 1, 1);
        desk.death(28, 1, 1);
        Due.same("the only coin goes on twice", 1, desk.has(5, 29, 2, 0));
        Due.same("nobody between has it", 0, desk.has(5, 28, 2, 0));
        desk.claim(29, 5);
        Due.same("nothing is HELD", 0, desk.sold(5, 3, 0));
    }

    /** What comes to one who is DEAD in a round goes on in the next one. */
    private static void goesOnAtOnce() {
        SalePart desk = desk();
        desk.joins(0, 1, 1);
        Texts.law(desk, 0, "rest 10000;", 0);
        desk.sale(0, 5, 6, 1000, 0, 202, 0);
        desk.death(0, 1, 1);
        desk.death(1, 1, 1);
        // Of 101 to 1: 67, of 101 to 2: 50; behind that of 67 to 2: 33.
        desk.heir(0, 1, 2, 3);
        desk.heir(1, 2, 1, 2);
        Due.same("what goes to the last", 83, desk.has(0, 2, 2, 0));
        Due.same("nothing to who is DEAD", 0, desk.has(0, 1, 2, 0));
        desk.claim(2, 0);
        Due.same("all else is HELD", 119, desk.sold(0, 3, 0));
        Due.same("the ARTIST's", 101, desk.has(0, 1, 0, 0));
    }

    private static void eightRounds() {
        SalePart desk = desk(100);
        for (int p = 0; p < 8; p++) {
            desk.death(p, 1, 10);
            desk.heir(p, p + 1, 1, 1);
        }
        Due.same("the ninth lives", 100, desk.has(0, 8, 2, 0));
        desk.claim(8, 0);
        Due.same("and GETS it", 100, desk.has(0, 8, 3, 0));
        desk.death(8, 1, 10);
        desk.heir(8, 9, 1, 1);
        desk.claim(9, 0);
        Due.same("a tenth has nothing", 0, desk.has(0, 9, 2, 0));
        Due.same("it is HELD", 100, desk.sold(0, 3, 0));
    }

    private static void circle() {
        SalePart desk = desk(100);
        desk.death(0, 1, 10);
        desk.death(1, 1, 10);
        desk.heir(0, 1, 1, 1);
        desk.heir(1, 0, 1, 2);
        desk.heir(1, 2, 1, 4);
        // 2 has of 100, 50, 25 and 12 a quarter each: 25, 12, 6, 3.
        Due.same("what leaves the circle", 46, desk.has(0, 2, 2, 0));
        desk.claim(2, 0);
        Due.same("the others' is HELD", 54, desk.sold(0, 3, 0));
    }

    private static void mandates() {
        SalePart desk = desk(999);
        desk.society(1, 300);
        desk.society(0, 7);
        desk.fact(5, 0, 0, 0, 1001);
        Due.same("a MANDATE from a later DAY", 0, desk.has(0, 0, 3, 0));
        desk.evenings(1);
        desk.fact(5, 0, 0, 0, 1000);
        Due.same("behind the fee", 700, desk.has(0, 0, 3, 1));
        Due.same("as known ahead", 0, desk.has(0, 0, 3, 0));
        Due.same("nothing is HELD", 0, desk.sold(0, 3, 1));
        Due.same("as known ahead", 999, desk.sold(0, 3, 0));
        desk.fact(5, 0, 0, 1, 500);
        Due.same("the MANDATE told last", 993, desk.has(0, 0, 3, 1));
        desk.claim(0, 0);
        Due.same("a CLAIM beside a MANDATE", 993, desk.has(0, 0, 3, 1));
        desk.back(false, 3);
        Due.same("the MANDATE ahead", 700, desk.has(0, 0, 3, 1));
        desk.back(false, 2);
        Due.same("the CLAIM without a MANDATE", 999, desk.has(0, 0, 3, 1));
        Due.same("what goes to it is the same", 999, desk.has(0, 0, 2, 1));
    }

    private static void claims() {
        SalePart desk = desk();
        Texts.law(desk, 0, "rest 10000; claim 2;", 0);
        desk.evenings(5);
        desk.sale(0, 1, 2, 1000, 0, 60, 0);
        desk.evenings(2);
        desk.claim(0, 0);
        Due.same("in time", 60, desk.has(0, 0, 3, 7));
        Due.same("as known ahead of it", 0, desk.has(0, 0, 3, 6));
        Texts.law(desk, 0, "rest 10000; claim 1;", 1);
        Due.same("too late by another LAW", 0, desk.has(0, 0, 3, 7));
        Due.same("it is HELD", 60, desk.sold(0, 3, 7));
        Texts.law(desk, 0, "rest 10000; claim 0; claim 99999999;", 2);
        Due.same("much time", 60, desk.has(0, 0, 3, 7));
        Texts.law(desk, 0, "rest 10000;", 3);
        desk.sale(0, 1, 2, 1000, 0, 70, 0);
        desk.sale(0, 1, 2, 1000, 0, 80, 0);
        desk.evenings(300);
        desk.claim(0, 1);
        desk.evenings(1);
        desk.claim(0, 2);
        Due.same("300 EVENINGS behind", 70, desk.has(1, 0, 3, 308));
        Due.same("301 EVENINGS behind", 0, desk.has(2, 0, 3, 308));
    }

    private static void heldInAll() {
        SalePart desk = desk();
        desk.joins(0, 1, 1);
        desk.joins(0, 2, 1);
        Texts.law(desk, 0, "rest 10000;", 0);
        desk.sale(0, 5, 6, 1000, 0, 1000, 0);
        Due.same("of 1000, in thirds", 999, desk.sold(0, 3, 0));
        desk.death(1, 1, 1);
        desk.heir(1, 7, 1, 2);
        desk.claim(0, 0);
        Due.same("without what is claimed", 666, desk.sold(0, 3, 0));
        desk.claim(7, 0);
        Due.same("without what the HEIR claims", 500, desk.sold(0, 3, 0));
        desk.claim(1, 0);
        Due.same("a CLAIM of who is DEAD", 500, desk.sold(0, 3, 0));
        Due.same("who is DEAD GETS nothing", 0, desk.has(0, 1, 3, 0));
    }
}
