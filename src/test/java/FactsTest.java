/** Promises 9 to 14: what is told as a FACT or a CLAIM, and what is TAKEN BACK. */
public final class FactsTest {
    private static final int NONE = SalePart.NONE;

    private FactsTest() {
    }

    public static void main(String[] args) {
        deaths();
        deathsKnown();
        heirs();
        heirsOfSeveral();
        sales();
        gifts();
        seen();
        mandates();
        back();
        claims();
        onlySales();
        atMost();
        Due.end();
    }

    /** Two LANDS, six PERSONS, a WORK of PERSON 0, a society. */
    private static SalePart desk() {
        SalePart desk = new SalePart();
        desk.land();
        desk.land();
        for (int i = 0; i < 6; i++) {
            desk.person(0, 0);
        }
        desk.work(0, 1, 1, 0, 1, 1);
        desk.society(0, 0);
        return desk;
    }

    private static void deaths() {
        SalePart desk = desk();
        Due.same("death on one DAY", 0, desk.death(0, 5, 5));
        Due.same("death on any DAY", 1, desk.death(1, 0, 36499));
        Due.same("death ahead of all DAYS", NONE, desk.death(0, -1, 5));
        Due.same("death behind all DAYS", NONE, desk.death(0, 5, 36500));
        Due.same("death wholly behind all DAYS", NONE, desk.death(0, 36500, 36500));
        Due.same("death that ends ahead of its beginning", NONE, desk.death(0, 5, 4));
        Due.isMissing("death of nobody", () -> desk.death(6, 5, 4));
        Due.isMissing("death of PERSON -1", () -> desk.death(-1, 0, 0));
        Due.same("FACTS", 2, desk.count(5));
    }

    /** The DEATH told last counts, of those known. */
    private static void deathsKnown() {
        SalePart desk = desk();
        Texts.law(desk, 0, "due 1; rest 10000; years 1;", 0);
        desk.sale(0, 1, 2, 1000, 0, 500, 0);
        Due.same("surely without a DEATH", 1, desk.has(0, 0, 1, 0));
        desk.death(0, 100, 100);
        Due.same("too long behind", 0, desk.has(0, 0, 1, 0));
        desk.death(0, 900, 900);
        Due.same("by the DEATH told last", 1, desk.has(0, 0, 1, 0));
        desk.evenings(1);
        desk.death(0, 200, 200);
        Due.same("by the third", 0, desk.has(0, 0, 1, 1));
        Due.same("as known ahead", 1, desk.has(0, 0, 1, 0));
        desk.evenings(1);
        desk.back(false, 3);
        Due.same("by the second once more", 1, desk.has(0, 0, 1, 2));
        Due.same("as known in between", 0, desk.has(0, 0, 1, 1));
    }

    private static void heirs() {
        SalePart desk = desk();
        Due.same("a twelfth", 0, desk.heir(0, 1, 1, 12));
        Due.same("both are one", NONE, desk.heir(0, 0, 1, 2));
        Due.same("p is 0", NONE, desk.heir(0, 1, 0, 2));
        Due.same("p is above q", NONE, desk.heir(0, 1, 3, 2));
        Due.same("q is 0", NONE, desk.heir(0, 1, 0, 0));
        Due.same("q is below 0", NONE, desk.heir(0, 1, -1, -1));
        Due.same("q is 13", NONE, desk.heir(0, 1, 1, 13));
        Due.isMissing("heir of nobody", () -> desk.heir(6, 0, 1, 1));
        Due.isMissing("nobody inherits", () -> desk.heir(0, 6, 0, 0));
        Due.same("all that is left, and more", NONE, desk.heir(0, 2, 1, 1));
        Due.same("all that is left", 1, desk.heir(0, 2, 11, 12));
        Due.same("a twelfth more", NONE, desk.heir(0, 3, 1, 12));
        Due.same("of another one", 2, desk.heir(1, 0, 1, 1));
        desk.evenings(1);
        desk.back(false, 0);
        Due.same("an eleventh where a twelfth is left", NONE, desk.heir(0, 3, 1, 11));
        Due.same("what is left by what was TAKEN BACK", 3, desk.heir(0, 3, 1, 12));
    }

    private static void heirsOfSeveral() {
        SalePart desk = desk();
        Due.same("1 of 2", 0, desk.heir(0, 1, 1, 2));
        Due.same("1 of 3", 1, desk.heir(0, 2, 1, 3));
        Due.same("1 of 7", 2, desk.heir(0, 3, 1, 7));
        Due.same("1 of 41 would fit, 1 of 12 doesn't", NONE, desk.heir(0, 4, 1, 12));
        SalePart whole = desk();
        for (int i = 0; i < 11; i++) {
            Due.same("one more eleventh", i, whole.heir(0, 1 + i % 5, 1, 11));
        }
        Due.same("a twelfth eleventh", NONE, whole.heir(0, 1, 1, 11));
    }

    private static void sales() {
        SalePart desk = desk();
        Due.same("the least sale", 0, desk.sale(0, 0, 1, 0, 0, 1, 0));
        Due.same("the most sale", 1, desk.sale(0, 1, 0, 36499, 1, 20000000, 3));
        Due.same("to oneself", NONE, desk.sale(0, 1, 1, 0, 0, 1, 0));
        Due.same("ahead of all DAYS", NONE, desk.sale(0, 0, 1, -1, 0, 1, 0));
        Due.same("behind all DAYS", NONE, desk.sale(0, 0, 1, 36500, 0, 1, 0));
        Due.same("for nothing", NONE, desk.sale(0, 0, 1, 0, 0, 0, 0));
        Due.same("for too much", NONE, desk.sale(0, 0, 1, 0, 0, 20000001, 0));
        Due.same("how is -1", NONE, desk.sale(0, 0, 1, 0, 0, 1, -1));
        Due.same("how is 4", NONE, desk.sale(0, 0, 1, 0, 0, 1, 4));
        Due.isMissing("sale of no WORK", () -> desk.sale(1, 0, 0, -1, 0, 0, 4));
        Due.isMissing("nobody sells", () -> desk.sale(0, 6, 0, 0, 0, 1, 0));
        Due.isMissing("nobody buys", () -> desk.sale(0, 0, -1, 0, 0, 1, 0));
        Due.isMissing("sale in no LAND", () -> desk.sale(0, 0, 1, 0, 2, 1, 0));
        Due.same("FACTS", 2, desk.count(5));
    }

    private static void gifts() {
        SalePart desk = desk();
        Due.same("gift", 0, desk.fact(3, 0, 0, 1, 0));
        Due.same("gift on the last DAY", 1, desk.fact(3, 0, 1, 0, 36499));
        Due.same("gift to oneself", NONE, desk.fact(3, 0, 1, 1, 0));
        Due.same("gift ahead of all DAYS", NONE, desk.fact(3, 0, 0, 1, -1));
        Due.same("gift behind all DAYS", NONE, desk.fact(3, 0, 0, 1, 36500));
        Due.isMissing("gift of no WORK", () -> desk.fact(3, 1, 0, 0, 0));
        Due.isMissing("nobody gives", () -> desk.fact(3, 0, 6, 1, 0));
        Due.isMissing("nobody is given", () -> desk.fact(3, 0, 0, 6, -1));
        for (int kind : new int[] {Integer.MIN_VALUE, -1, 0, 1, 2, 6, 7}) {
            Due.isMissing("fact of kind " + kind, () -> desk.fact(kind, 0, 0, 1, 0));
        }
    }

    private static void seen() {
        SalePart desk = desk();
        Due.same("seen", 0, desk.fact(4, 0, 1, 1, 0));
        Due.same("seen, and other is no PERSON", 1, desk.fact(4, 0, 1, -99, 36499));
        Due.same("seen behind all DAYS", NONE, desk.fact(4, 0, 1, 0, 36500));
        Due.isMissing("no WORK is seen", () -> desk.fact(4, 1, 0, 0, 0));
        Due.isMissing("seen with nobody", () -> desk.fact(4, 0, -1, 0, 0));
        Due.same("with whom it is", 1, desk.with(0, 0, 0));
    }

    private static void mandates() {
        SalePart desk = desk();
        Due.same("mandate", 0, desk.fact(5, 0, 1, 0, 0));
        Due.same("mandate, and what is no WORK", 1, desk.fact(5, -99, 0, 0, 36499));
        Due.same("mandate behind all DAYS", NONE, desk.fact(5, 0, 1, 0, 36500));
        Due.isMissing("mandate of nobody", () -> desk.fact(5, 0, 6, 0, 0));
        Due.isMissing("mandate to no society", () -> desk.fact(5, 0, 0, 1, 0));
        Due.isMissing("mandate to society -1", () -> desk.fact(5, 0, 0, -1, 36500));
    }

    private static void back() {
        SalePart desk = desk();
        desk.death(0, 0, 0);
        desk.law(0, 0, 0);
        Due.isMissing("back of no FACT", () -> desk.back(false, 1) ? 1 : 0);
        Due.isMissing("back of FACT -1", () -> desk.back(false, -1) ? 1 : 0);
        Due.isMissing("back of no LAW", () -> desk.back(true, 1) ? 1 : 0);
        Due.isMissing("back of LAW -1", () -> desk.back(true, -1) ? 1 : 0);
        Due.yes("back of a FACT", desk.back(false, 0));
        Due.no("back of it again", desk.back(false, 0));
        Due.yes("back of a LAW", desk.back(true, 0));
        Due.no("back of it again", desk.back(true, 0));
        desk.evenings(1);
        Due.no("back of a FACT later", desk.back(false, 0));
        Due.no("back of a LAW later", desk.back(true, 0));
        knownBack();
    }

    private static void knownBack() {
        SalePart desk = desk();
        desk.evenings(2);
        desk.sale(0, 0, 1, 0, 0, 77, 0);
        desk.evenings(2);
        desk.back(false, 0);
        desk.evenings(1);
        int[] due = {NONE, NONE, 77, 77, NONE, NONE};
        for (int k = 0; k < due.length; k++) {
            Due.same("PRICE as known on EVENING " + k, due[k], desk.sold(0, 0, k));
        }
        desk.sale(0, 0, 1, 0, 0, 78, 0);
        desk.back(false, 1);
        Due.same("told and TAKEN BACK on one EVENING", NONE, desk.sold(1, 0, 5));
    }

    private static void claims() {
        SalePart desk = desk();
        desk.fact(4, 0, 0, 0, 0);
        desk.sale(0, 1, 2, 0, 0, 500, 0);
        Due.yes("claim", desk.claim(0, 1));
        Due.no("claim again", desk.claim(0, 1));
        Due.yes("claim of another one", desk.claim(5, 1));
        Due.isMissing("claim of nobody", () -> desk.claim(6, 1) ? 1 : 0);
        Due.isMissing("claim on another FACT", () -> desk.claim(0, 0) ? 1 : 0);
        Due.isMissing("claim on no FACT", () -> desk.claim(0, 2) ? 1 : 0);
        Due.isMissing("claim on FACT -1", () -> desk.claim(0, -1) ? 1 : 0);
        desk.back(false, 1);
        Due.yes("claim on a SALE TAKEN BACK", desk.claim(1, 1));
        Due.same("CLAIMS", 3, desk.count(7));
    }

    private static void onlySales() {
        SalePart desk = desk();
        desk.death(0, 0, 0);
        desk.heir(0, 1, 1, 1);
        desk.fact(3, 0, 0, 1, 0);
        desk.fact(4, 0, 0, 1, 0);
        desk.fact(5, 0, 0, 0, 0);
        for (int number = 0; number < 5; number++) {
            int fact = number;
            Due.isMissing("claim on FACT " + fact, () -> desk.claim(0, fact) ? 1 : 0);
            Due.isMissing("sold of FACT " + fact, () -> desk.sold(fact, 0, 0));
            Due.isMissing("has of FACT " + fact, () -> desk.has(fact, 0, 0, 0));
        }
    }

    private static void atMost() {
        SalePart desk = desk();
        for (int i = 0; i < 200; i++) {
            Due.same("fact " + i, i, desk.sale(0, i % 2, 2, i, 0, 1, 0));
        }
        Due.same("a 201st sale", NONE, desk.sale(0, 0, 1, 0, 0, 1, 0));
        Due.same("a 201st death", NONE, desk.death(0, 0, 0));
        Due.same("a 201st heir", NONE, desk.heir(0, 1, 1, 1));
        Due.same("a 201st gift", NONE, desk.fact(3, 0, 0, 1, 0));
        Due.same("a 201st seen", NONE, desk.fact(4, 0, 0, 1, 0));
        Due.same("a 201st mandate", NONE, desk.fact(5, 0, 0, 0, 0));
        Due.isMissing("a 201st sale of nobody", () -> desk.sale(0, 6, 1, 0, 0, 1, 0));
        for (int i = 0; i < 200; i++) {
            Due.yes("claim " + i, desk.claim(i / 100, i % 100));
        }
        Due.no("a 201st claim", desk.claim(2, 0));
        Due.isMissing("a 201st claim of nobody", () -> desk.claim(6, 0) ? 1 : 0);
        Due.same("CLAIMS", 200, desk.count(7));
    }
}
