import java.util.function.IntFunction;

/** Promises 9 to 14 where the document names a boundary; each method is of one sentence. */
public final class FactsEdgeTest {
    private static final int NONE = SalePart.NONE;
    private static final int LEAST = Integer.MIN_VALUE;
    private static final int MOST = Integer.MAX_VALUE;

    private FactsEdgeTest() {
    }

    public static void main(String[] args) {
        factsAtMost();
        numbersOfAllKinds();
        deathDays();
        deathOfNobody();
        deathToldLast();
        deadOnDay();
        heirParts();
        heirOfItself();
        heirsOneWhole();
        heirsOfTwo();
        heirsNextToWhole();
        heirsKnownTonight();
        heirOfNobody();
        saleNumbers();
        saleTwo();
        saleOfNothing();
        factKinds();
        factDays();
        giftTwo();
        factOfNothing();
        factUnasked();
        backTwice();
        backOfNothing();
        backOfNumbers();
        knownFromTold();
        knownUntilBack();
        lawKnown();
        claimTwice();
        claimsAtMost();
        claimOnOthers();
        refusedChangesNothing();
        Due.end();
    }

    /** Two LANDS, six PERSONS of LAND 0, a WORK of PERSON 0, a society. */
    private static SalePart desk() {
        SalePart desk = Desks.ofWork(2, 6);
        desk.society(0, 0);
        return desk;
    }

    /** One FACT more of a KIND, which is as told. */
    private static int tell(SalePart desk, int kind) {
        switch (kind) {
            case 0:
                return desk.death(0, 0, 0);
            case 1:
                return desk.heir(0, 1, 1, 12);
            case 2:
                return desk.sale(0, 0, 1, 0, 0, 1, 0);
            default:
                return desk.fact(kind, 0, 0, kind == 5 ? 0 : 1, 0);
        }
    }

    private static void factsAtMost() {
        for (int kind = 0; kind <= 5; kind++) {
            Due.by("Promises 9 to 12", "NONE: there are 200 (a FACT of KIND " + kind + ")");
            SalePart desk = desk();
            for (int i = 0; i < 199; i++) {
                desk.fact(4, 0, 0, 0, 0);
            }
            Due.same("the 200th", 199, tell(desk, kind));
            Due.same("a 201st", NONE, tell(desk, kind));
            Due.same("FACTS", 200, desk.count(5));
            desk.back(false, 0);
            desk.evenings(1);
            Due.same("a 201st behind one TAKEN BACK", NONE, tell(desk, kind));
            Due.same("FACTS behind that", 200, desk.count(5));
            Due.yes("the 200th is there", desk.back(false, 199));
            Due.isMissing("the 201st isn't", () -> desk.back(false, 200) ? 1 : 0);
        }
    }

    private static void numbersOfAllKinds() {
        Due.by("Terms, FACTS", "FACTS, numbered from 0 on (of all KINDS together)");
        SalePart desk = desk();
        for (int i = 0; i < 12; i++) {
            Due.same("FACT of KIND " + i % 6, i, tell(desk, i % 6));
            Due.same("one that isn't as told", NONE, desk.death(0, 1, 0));
        }
        Due.same("FACTS", 12, desk.count(5));
    }

    private static void deathDays() {
        Due.by("Promise 9", "NONE: DAYS are not as told (from, to 0 to 36499, to not ahead of from).");
        SalePart desk = desk();
        int[][] good = {{0, 0}, {0, 1}, {0, 36499}, {1, 1}, {36498, 36499}, {36499, 36499}, {17, 17}, {17, 18}};
        for (int i = 0; i < good.length; i++) {
            Due.same("from " + good[i][0] + " to " + good[i][1], i, desk.death(0, good[i][0], good[i][1]));
        }
        int[][] wrong = {{-1, -1}, {-1, 0}, {-1, 36499}, {0, -1}, {0, 36500}, {36499, 36500}, {36500, 36500}, {1, 0},
            {17, 16}, {36499, 36498}, {36499, 0}, {36500, 36499}, {LEAST, LEAST}, {LEAST, 0}, {0, LEAST}, {0, MOST},
            {MOST, MOST}, {MOST, 0}, {LEAST, MOST}, {MOST, LEAST}};
        for (int[] days : wrong) {
            Due.same("from " + days[0] + " to " + days[1], NONE, desk.death(0, days[0], days[1]));
        }
        Due.same("FACTS", good.length, desk.count(5));
    }

    private static void deathOfNobody() {
        Due.by("Promise 9", "throws NoSuchElementException (no such PERSON, as everywhere)");
        SalePart desk = desk();
        Due.same("PERSON 5", 0, desk.death(5, 0, 0));
        for (int person : Whole.far(-1, 6)) {
            Due.isMissing("PERSON " + person, () -> desk.death(person, 0, 0));
            Due.isMissing("PERSON " + person + ", DAYS not as told", () -> desk.death(person, 1, 0));
        }
    }

    private static void deathToldLast() {
        Due.by("Terms, KINDS", "0 DEATH: of several the one told last counts");
        SalePart desk = desk();
        Texts.law(desk, 0, "rest 10000; years 0;", 0);
        desk.sale(0, 1, 2, 500, 0, 1000, 0);
        desk.evenings(1);
        int[][] deaths = {{500, 500, 0}, {501, 501, 1}, {400, 501, 2}, {0, 0, 0}, {501, 36499, 1}, {500, 501, 2}};
        for (int[] death : deaths) {
            desk.death(0, death[0], death[1]);
            Due.same("FOR it by " + death[0] + " to " + death[1], death[2], desk.has(0, 0, 1, 1));
            Due.same("FOR it as known ahead", 1, desk.has(0, 0, 1, 0));
        }
        desk.evenings(1);
        for (int i = deaths.length - 1; i > 0; i--) {
            desk.back(false, i + 1);
            Due.same("FOR it without the last", deaths[i - 1][2], desk.has(0, 0, 1, 2));
            Due.same("FOR it as known ahead", deaths[deaths.length - 1][2], desk.has(0, 0, 1, 1));
        }
        desk.back(false, 1);
        Due.same("FOR it without any", 1, desk.has(0, 0, 1, 2));
    }

    private static void deadOnDay() {
        Due.by("Terms, FACTS", "DEAD on a DAY is a PERSON whose DEATH's last DAY isn't behind it.");
        int[][] due = {{0, 0}, {99, 0}, {100, 0}, {101, 0}, {199, 0}, {200, 1}, {201, 1}, {36499, 1}};
        for (int[] one : due) {
            SalePart desk = desk();
            Texts.law(desk, 0, "rest 10000; years 200;", 0);
            desk.heir(0, 1, 1, 1);
            desk.death(0, 100, 200);
            desk.sale(0, 3, 4, one[0], 0, 1000, 0);
            Due.same("what goes to the ARTIST on DAY " + one[0], 1000 - 1000 * one[1], desk.has(2, 0, 2, 0));
            Due.same("what goes to the HEIR on DAY " + one[0], 1000 * one[1], desk.has(2, 1, 2, 0));
        }
        SalePart first = desk();
        Texts.law(first, 0, "rest 10000;", 0);
        first.death(0, 0, 0);
        first.heir(0, 1, 1, 1);
        first.sale(0, 3, 4, 0, 0, 1000, 0);
        Due.same("DEAD on the first DAY", 1000, first.has(2, 1, 2, 0));
    }

    private static void heirParts() {
        Due.by("Promise 10", "NONE: p is not 1 to q, or q not 1 to 12");
        SalePart wrong = desk();
        for (int q = 1; q <= 12; q++) {
            for (int p : Whole.far(-1, 0, q + 1, 13)) {
                Due.same(p + " of " + q, NONE, wrong.heir(0, 1, p, q));
            }
        }
        for (int q : Whole.far(-1, 0, 13, 14, -12)) {
            for (int p : Whole.far(-1, 0, 1, 12, 13)) {
                Due.same(p + " of " + q, NONE, wrong.heir(0, 1, p, q));
            }
        }
        Due.same("FACTS", 0, wrong.count(5));
        for (int q = 1; q <= 12; q++) {
            SalePart desk = desk();
            Due.same("1 of " + q, 0, desk.heir(3, 1, 1, q));
            Due.same(q + " of " + q, 1, desk.heir(4, 1, q, q));
        }
    }

    private static void heirOfItself() {
        Due.by("Promise 10", "NONE: both are one");
        SalePart desk = desk();
        for (int person = 0; person < 6; person++) {
            Due.same(person + " of itself", NONE, desk.heir(person, person, 1, 1));
            Due.same(person + " of the next", person, desk.heir(person, (person + 1) % 6, 1, 1));
        }
    }

    private static void heirsOneWhole() {
        Due.by("Promise 10", "NONE: its HEIRS would be more than one whole");
        for (int q = 1; q <= 12; q++) {
            SalePart desk = desk();
            for (int i = 0; i < q; i++) {
                Due.same("1 of " + q, i, desk.heir(0, 1 + i % 5, 1, q));
            }
            for (int more = 1; more <= 12; more++) {
                Due.same("1 of " + more + " more", NONE, desk.heir(0, 1, 1, more));
            }
            Due.same("of another one", q, desk.heir(1, 0, 1, 1));
            Due.same("FACTS", q + 1, desk.count(5));
        }
        SalePart desk = desk();
        desk.heir(0, 1, 1, 11);
        desk.heir(0, 2, 10, 12);
        Due.same("1 of 11 where 5 of 66 are left", NONE, desk.heir(0, 3, 1, 11));
        Due.same("1 of 12 where 5 of 66 are left", NONE, desk.heir(0, 3, 1, 12));
        SalePart many = desk();
        many.heir(0, 1, 1, 7);
        many.heir(0, 2, 1, 11);
        many.heir(0, 3, 2, 9);
        many.heir(0, 4, 1, 8);
        Due.same("2 of 5 where 2323 of 5544 are left", 4, many.heir(0, 5, 2, 5));
        Due.same("1 of 12 behind it", NONE, many.heir(0, 1, 1, 12));
    }

    /** Each two parts there may be, held against their sum. */
    private static void heirsOfTwo() {
        Due.by("Promise 10", "NONE: its HEIRS would be more than one whole (p of q and another p of q)");
        for (int q = 1; q <= 12; q++) {
            for (int p = 1; p <= q; p++) {
                heirsBeside(p, q);
            }
        }
    }

    private static void heirsBeside(int p, int q) {
        for (int other = 1; other <= 12; other++) {
            SalePart desk = desk();
            desk.heir(0, 1, p, q);
            int most = (q - p) * other / q;
            Due.same("more than is left, in parts of " + other, NONE, desk.heir(0, 2, most + 1, other));
            if (most > 0) {
                Due.same("what is left, in parts of " + other, 1, desk.heir(0, 2, most, other));
            }
        }
    }

    /** The nearest to one whole that parts of 1 to 12 come to, in parts of 27720. */
    private static void heirsNextToWhole() {
        Due.by("Promise 10", "NONE: its HEIRS would be more than one whole (be it by ever so little)");
        heirsTogether(-18, 1, 10, 2, 7, 4, 11, 1, 4);
        heirsTogether(-16, 6, 11, 1, 5, 1, 7, 1, 9);
        heirsTogether(-7, 1, 8, 2, 5, 4, 11, 1, 9);
        heirsTogether(0, 1, 2, 1, 3, 1, 6);
        heirsTogether(0, 1, 4, 5, 12, 1, 3);
        heirsTogether(0, 3, 10, 1, 5, 1, 2);
        heirsTogether(5, 1, 6, 5, 11, 1, 8, 1, 7, 1, 9);
        heirsTogether(12, 1, 7, 1, 11, 2, 3, 1, 10);
        heirsTogether(14, 3, 11, 5, 12, 1, 5, 1, 9);
        heirsTogether(15, 1, 8, 3, 7, 4, 11, 1, 12);
        heirsTogether(22, 1, 10, 3, 7, 2, 9, 1, 4);
    }

    private static void heirsTogether(int more, int... parts) {
        for (int last = 0; last < parts.length; last += 2) {
            SalePart desk = desk();
            int told = 0;
            for (int i = 0; i < parts.length; i += 2) {
                if (i != last) {
                    Due.same("one of some", told, desk.heir(0, 1 + i / 2, parts[i], parts[i + 1]));
                    told++;
                }
            }
            Due.same(parts[last] + " of " + parts[last + 1] + ", all then one whole and " + more + " of 27720",
                    more > 0 ? NONE : told, desk.heir(0, 1, parts[last], parts[last + 1]));
        }
    }

    private static void heirsKnownTonight() {
        Due.by("Promise 10", "NONE: its HEIRS would be more than one whole as known TONIGHT.");
        SalePart desk = desk();
        desk.heir(0, 1, 1, 2);
        desk.heir(0, 2, 1, 2);
        Due.same("more than is left", NONE, desk.heir(0, 3, 1, 2));
        desk.back(false, 0);
        Due.same("what was TAKEN BACK TONIGHT", 2, desk.heir(0, 3, 1, 2));
        desk.evenings(5);
        Due.same("more than is left, later", NONE, desk.heir(0, 3, 1, 12));
        desk.back(false, 2);
        desk.evenings(5);
        Due.same("more than was TAKEN BACK", NONE, desk.heir(0, 3, 7, 12));
        Due.same("what was TAKEN BACK long ago", 3, desk.heir(0, 3, 1, 2));
        Due.same("and no more", NONE, desk.heir(0, 4, 1, 12));
    }

    private static void heirOfNobody() {
        Due.by("Promise 10", "throws NoSuchElementException (no such PERSON, as everywhere)");
        SalePart desk = desk();
        for (int n : Whole.far(-1, 6)) {
            Due.isMissing("HEIR of PERSON " + n, () -> desk.heir(n, 0, 1, 1));
            Due.isMissing("PERSON " + n + " inherits", () -> desk.heir(0, n, 1, 1));
            Due.isMissing("PERSON " + n + " of itself", () -> desk.heir(n, n, 0, 0));
        }
        Due.same("HEIR of PERSON 5", 0, desk.heir(5, 0, 1, 1));
        Due.same("PERSON 5 inherits", 1, desk.heir(0, 5, 1, 1));
        Due.isMissing("nobody inherits what isn't left", () -> desk.heir(0, 6, 1, 1));
    }

    private static void saleNumbers() {
        Due.by("Promise 11", "NONE: a number is not as told (DAY 0 to 36499, price 1 to 20,000,000, how 0 to 3).");
        SalePart desk = desk();
        for (int day : Whole.far(-1, 36500)) {
            Due.same("DAY " + day, NONE, desk.sale(0, 1, 2, day, 0, 5, 0));
        }
        for (int price : Whole.far(-1, 0, 20000001)) {
            Due.same("price " + price, NONE, desk.sale(0, 1, 2, 0, 0, price, 0));
        }
        for (int how : Whole.far(-1, 4)) {
            Due.same("how " + how, NONE, desk.sale(0, 1, 2, 0, 0, 5, how));
        }
        Due.same("FACTS", 0, desk.count(5));
        int made = 0;
        for (int day : new int[] {0, 1, 36498, 36499}) {
            Due.same("DAY " + day, made++, desk.sale(0, 1, 2, day, 0, 5, 0));
        }
        for (int price : new int[] {1, 2, 19999999, 20000000}) {
            Due.same("price " + price, made++, desk.sale(0, 1, 2, 0, 0, price, 0));
        }
        for (int how = 0; how <= 3; how++) {
            Due.same("how " + how, made++, desk.sale(0, 1, 2, 0, 0, 5, how));
        }
    }

    private static void saleTwo() {
        Due.by("Terms", "A SALE: WORK, seller, buyer (unlike PERSONS)");
        SalePart desk = desk();
        for (int person = 0; person < 6; person++) {
            Due.same(person + " to itself", NONE, desk.sale(0, person, person, 0, 0, 1, 0));
            Due.same(person + " to the next", person, desk.sale(0, person, (person + 1) % 6, 0, 0, 1, 0));
        }
    }

    private static void saleOfNothing() {
        Due.by("Promise 11", "throws NoSuchElementException (no such WORK, PERSON, LAND, as everywhere)");
        SalePart desk = desk();
        for (int wrong : Whole.far(-1, 6)) {
            Due.isMissing("seller " + wrong, () -> desk.sale(0, wrong, 0, 0, 0, 1, 0));
            Due.isMissing("buyer " + wrong, () -> desk.sale(0, 0, wrong, 0, 0, 1, 0));
            Due.isMissing("both " + wrong, () -> desk.sale(0, wrong, wrong, 0, 0, 1, 0));
            Due.isMissing("seller " + wrong + ", not as told", () -> desk.sale(0, wrong, 0, -1, 0, 0, 4));
        }
        for (int wrong : Whole.far(-1, 1)) {
            Due.isMissing("WORK " + wrong, () -> desk.sale(wrong, 0, 1, 0, 0, 1, 0));
            Due.isMissing("WORK " + wrong + ", not as told", () -> desk.sale(wrong, 0, 0, -1, 0, 0, 4));
        }
        for (int wrong : Whole.far(-1, 2)) {
            Due.isMissing("LAND " + wrong, () -> desk.sale(0, 0, 1, 0, wrong, 1, 0));
            Due.isMissing("LAND " + wrong + ", not as told", () -> desk.sale(0, 0, 0, -1, wrong, 0, 4));
        }
        Due.same("PERSON 5, LAND 1", 0, desk.sale(0, 5, 4, 0, 1, 1, 0));
        Due.same("to PERSON 5, LAND 0", 1, desk.sale(0, 4, 5, 0, 0, 1, 0));
        while (desk.count(5) < 200) {
            desk.fact(4, 0, 0, 0, 0);
        }
        Due.isMissing("LAND 2 beside 200", () -> desk.sale(0, 0, 1, 0, 2, 1, 0));
    }

    private static void factKinds() {
        Due.by("Promise 12", "NoSuchElementException: no such kind");
        SalePart desk = desk();
        for (int kind : Whole.far(-1, 0, 1, 2, 6, 7)) {
            Due.isMissing("kind " + kind, () -> desk.fact(kind, 0, 0, 1, 0));
            Due.isMissing("kind " + kind + ", not as told", () -> desk.fact(kind, 0, 0, 0, -1));
        }
        for (int kind = 3; kind <= 5; kind++) {
            Due.same("kind " + kind, kind - 3, desk.fact(kind, 0, 1, 0, 0));
        }
        while (desk.count(5) < 200) {
            desk.fact(4, 0, 0, 0, 0);
        }
        for (int kind = 2; kind <= 6; kind += 4) {
            int none = kind;
            Due.isMissing("kind " + kind + " beside 200", () -> desk.fact(none, 0, 0, 1, 0));
        }
    }

    private static void factDays() {
        for (int kind = 3; kind <= 5; kind++) {
            Due.by("Promise 12", "NONE: the DAY is not as told (kind " + kind + ")");
            SalePart desk = desk();
            for (int day : Whole.far(-2, -1, 36500, 36501)) {
                Due.same("DAY " + day, NONE, desk.fact(kind, 0, 1, 0, day));
            }
            int made = 0;
            for (int day : new int[] {0, 1, 36498, 36499}) {
                Due.same("DAY " + day, made++, desk.fact(kind, 0, 1, 0, day));
            }
        }
    }

    private static void giftTwo() {
        Due.by("Promise 12", "NONE: a GIFT's two are one.");
        SalePart desk = desk();
        for (int person = 0; person < 6; person++) {
            Due.same(person + " to itself", NONE, desk.fact(3, 0, person, person, 0));
            Due.same(person + " to the next", 2 * person, desk.fact(3, 0, person, (person + 1) % 6, 0));
            Due.same("SEEN with " + person + " and " + person, 2 * person + 1, desk.fact(4, 0, person, person, 0));
        }
        Due.same("MANDATE of 0 to 0", 12, desk.fact(5, 0, 0, 0, 0));
    }

    private static void factOfNothing() {
        Due.by("Promise 12", "NoSuchElementException: no such WORK, PERSON, society.");
        SalePart desk = desk();
        for (int day = -1; day <= 0; day++) {
            int on = day;
            for (int wrong : Whole.far(-1, 1)) {
                Due.isMissing("GIFT of WORK " + wrong, () -> desk.fact(3, wrong, 0, 1, on));
                Due.isMissing("SEEN of WORK " + wrong, () -> desk.fact(4, wrong, 0, 1, on));
                Due.isMissing("MANDATE to society " + wrong, () -> desk.fact(5, 0, 0, wrong, on));
            }
            for (int wrong : Whole.far(-1, 6)) {
                for (int kind = 3; kind <= 5; kind++) {
                    int of = kind;
                    Due.isMissing("kind " + kind + " with PERSON " + wrong, () -> desk.fact(of, 0, wrong, 0, on));
                }
                Due.isMissing("GIFT to PERSON " + wrong, () -> desk.fact(3, 0, 0, wrong, on));
                Due.isMissing("GIFT of " + wrong + " to itself", () -> desk.fact(3, 0, wrong, wrong, on));
            }
        }
        Due.same("GIFT of PERSON 5", 0, desk.fact(3, 0, 5, 0, 0));
        Due.same("GIFT to PERSON 5", 1, desk.fact(3, 0, 0, 5, 0));
        Due.same("SEEN with PERSON 5", 2, desk.fact(4, 0, 5, 0, 0));
        Due.same("MANDATE of PERSON 5", 3, desk.fact(5, 0, 5, 0, 0));
        while (desk.count(5) < 200) {
            desk.fact(4, 0, 0, 0, 0);
        }
        Due.isMissing("GIFT of WORK 1 beside 200", () -> desk.fact(3, 1, 0, 1, 0));
        Due.isMissing("MANDATE to society 1 beside 200", () -> desk.fact(5, 0, 0, 1, 0));
    }

    /** SEEN has no other one, a MANDATE no WORK: what is given for them is no matter. */
    private static void factUnasked() {
        Due.by("Promise 12", "SEEN (4; with one), MANDATE (5; of one to the society number). what: the WORK (3, 4).");
        SalePart desk = desk();
        int made = 0;
        for (int any : Whole.far(-1, 0, 1, 6, 30)) {
            Due.same("SEEN, other " + any, made++, desk.fact(4, 0, 3, any, 5));
            Due.same("MANDATE, what " + any, made++, desk.fact(5, any, 3, 0, 5));
            Due.same("with whom it was SEEN", 3, desk.with(0, 5, 0));
        }
        Due.same("HIDDEN", 0, desk.hidden(0, NONE, 0, 0));
    }

    private static void backTwice() {
        Due.by("Promise 13", "A FACT (law false) or a LAW is TAKEN BACK: true. False: it was.");
        SalePart desk = desk();
        for (int kind = 0; kind <= 5; kind++) {
            tell(desk, kind);
        }
        for (int i = 0; i < 6; i++) {
            desk.law(0, 0, 0);
        }
        for (int i = 0; i < 6; i++) {
            Due.yes("FACT " + i, desk.back(false, i));
            Due.no("FACT " + i + " again", desk.back(false, i));
            Due.yes("LAW " + i, desk.back(true, i));
            Due.no("LAW " + i + " again", desk.back(true, i));
            desk.evenings(i % 2);
            Due.no("FACT " + i + " later", desk.back(false, i));
            Due.no("LAW " + i + " later", desk.back(true, i));
        }
    }

    private static void backOfNothing() {
        Due.by("Promise 13", "NoSuchElementException: no such one.");
        SalePart desk = desk();
        for (int number : Whole.far(-1, 0, 1)) {
            Due.isMissing("FACT " + number + " of none", () -> desk.back(false, number) ? 1 : 0);
            Due.isMissing("LAW " + number + " of none", () -> desk.back(true, number) ? 1 : 0);
        }
        for (int i = 0; i < 4; i++) {
            tell(desk, 4);
        }
        desk.law(0, 0, 0);
        for (int number : Whole.far(-1, 4, 5)) {
            Due.isMissing("FACT " + number + " of 4", () -> desk.back(false, number) ? 1 : 0);
        }
        for (int number : Whole.far(-1, 1, 2, 3)) {
            Due.isMissing("LAW " + number + " of 1", () -> desk.back(true, number) ? 1 : 0);
        }
        Due.yes("FACT 3", desk.back(false, 3));
        Due.yes("LAW 0", desk.back(true, 0));
        SalePart laws = desk();
        laws.law(0, 0, 0);
        laws.law(0, 0, 0);
        tell(laws, 4);
        Due.isMissing("FACT 1 of 1", () -> laws.back(false, 1) ? 1 : 0);
        Due.yes("LAW 1 of 2", laws.back(true, 1));
        Due.yes("FACT 0 of 1", laws.back(false, 0));
    }

    private static void backOfNumbers() {
        Due.by("Promise 13", "A FACT (law false) or a LAW is TAKEN BACK (that one alone)");
        SalePart desk = desk();
        Texts.law(desk, 0, "rest 1000;", 0);
        Texts.law(desk, 0, "rest 2000;", 0);
        desk.sale(0, 1, 2, 0, 0, 100, 0);
        desk.sale(0, 1, 2, 0, 0, 200, 0);
        desk.back(true, 1);
        Due.same("the LAW that is left", 10, desk.sold(0, 2, 0));
        Due.same("the first SALE", 100, desk.sold(0, 0, 0));
        desk.back(false, 0);
        Due.same("the first SALE behind it", NONE, desk.sold(0, 0, 0));
        Due.same("the second SALE", 200, desk.sold(1, 0, 0));
        Due.same("the LAW is left", 0, desk.sold(1, 5, 0));
    }

    /** What a FACT of each KIND, told on EVENING 5, changes from that EVENING on. */
    private static void knownFromTold() {
        Due.by("Terms, FACTS", "AS KNOWN on EVENING k: FACTS told on k or ahead");
        for (int kind = 0; kind <= 6; kind++) {
            SalePart desk = known();
            tellKnown(desk, kind);
            desk.evenings(3);
            for (int k = 1; k <= 8; k++) {
                int due = k < 5 ? without(kind) : with(kind);
                Due.same("KIND " + kind + " on EVENING " + k, due, askKnown(desk, kind, k));
            }
        }
    }

    private static void knownUntilBack() {
        Due.by("Terms, FACTS", "one may be TAKEN BACK (from that EVENING on it isn't known)");
        for (int kind = 0; kind <= 5; kind++) {
            for (int last = 0; last <= 2; last++) {
                SalePart desk = known();
                int number = tellKnown(desk, kind);
                desk.evenings(last);
                desk.back(false, number);
                desk.evenings(2);
                for (int k = 4; k <= 7 + last; k++) {
                    int due = k >= 5 && k < 5 + last ? with(kind) : without(kind);
                    Due.same("KIND " + kind + " on EVENING " + k + ", TAKEN BACK on " + (5 + last), due,
                            askKnown(desk, kind, k));
                }
            }
        }
    }

    /** On EVENING 5: told on EVENING 1 are SALES, FACTS 0 and 2, and the DEATH of PERSON 3, who has no HEIR. */
    private static SalePart known() {
        SalePart desk = desk();
        desk.work(3, 1, 1, 0, 1, 1);
        Texts.law(desk, 0, "rest 10000;", 0);
        desk.evenings(1);
        desk.sale(0, 1, 2, 1000, 0, 90, 0);
        desk.death(3, 0, 10);
        desk.sale(1, 1, 2, 1000, 0, 90, 0);
        desk.evenings(4);
        return desk;
    }

    private static int tellKnown(SalePart desk, int kind) {
        switch (kind) {
            case 0:
                return desk.death(0, 0, 5);
            case 1:
                return desk.heir(3, 4, 1, 1);
            case 2:
                return desk.sale(0, 4, 5, 999, 0, 90, 0);
            case 3:
                return desk.fact(3, 0, 4, 1, 998);
            case 4:
                return desk.fact(4, 0, 4, 0, 1000);
            case 5:
                return desk.fact(5, 0, 0, 0, 1000);
            default:
                return desk.claim(0, 0) ? 0 : NONE;
        }
    }

    private static int askKnown(SalePart desk, int kind, int k) {
        switch (kind) {
            case 0:
                return desk.has(0, 0, 2, k);
            case 1:
                return desk.has(2, 4, 2, k);
            case 2:
                return desk.sold(0, 7, k);
            case 3:
                return desk.sold(0, 6, k);
            case 4:
                return desk.with(0, 36499, k);
            default:
                return desk.has(0, 0, 3, k);
        }
    }

    private static int without(int kind) {
        return new int[] {90, 0, 0, 99999, 2, 0, 0}[kind];
    }

    private static int with(int kind) {
        return new int[] {0, 90, 1, 2, 4, 90, 90}[kind];
    }

    private static void lawKnown() {
        Due.by("Terms, FACTS", "AS KNOWN on EVENING k: LAWS told on k or ahead, not TAKEN BACK on k or ahead.");
        for (int last = 0; last <= 2; last++) {
            SalePart desk = desk();
            desk.sale(0, 1, 2, 1000, 0, 90, 0);
            desk.evenings(5);
            Texts.law(desk, 0, "rest 10000;", 0);
            desk.evenings(last);
            desk.back(true, 0);
            desk.evenings(2);
            for (int k = 4; k <= 7 + last; k++) {
                boolean known = k >= 5 && k < 5 + last;
                Due.same("LAW on EVENING " + k + ", TAKEN BACK on " + (5 + last), known ? 0 : NONE, desk.sold(0, 5, k));
                Due.same("PART on EVENING " + k + ", TAKEN BACK on " + (5 + last), known ? 90 : 0, desk.sold(0, 2, k));
            }
        }
    }

    private static void claimTwice() {
        Due.by("Promise 14", "A CLAIM TONIGHT: true. False: it has one on it already");
        SalePart desk = desk();
        desk.sale(0, 1, 2, 0, 0, 1, 0);
        desk.sale(0, 1, 2, 0, 0, 1, 0);
        for (int sale = 0; sale < 2; sale++) {
            for (int person = 0; person < 6; person++) {
                Due.yes("CLAIM of " + person + " on " + sale, desk.claim(person, sale));
                Due.no("again", desk.claim(person, sale));
            }
        }
        desk.evenings(1);
        Due.no("again, later", desk.claim(0, 0));
        desk.back(false, 0);
        Due.no("again, behind the SALE is TAKEN BACK", desk.claim(0, 0));
        Due.same("CLAIMS", 12, desk.count(7));
    }

    private static void claimsAtMost() {
        Due.by("Promise 14", "False: there are 200.");
        SalePart desk = desk();
        for (int i = 0; i < 40; i++) {
            desk.sale(0, 1, 2, 0, 0, 1, 0);
        }
        for (int i = 0; i < 199; i++) {
            Due.yes("CLAIM " + i, desk.claim(i % 5, i / 5));
        }
        Due.no("one that is there", desk.claim(0, 0));
        Due.same("CLAIMS", 199, desk.count(7));
        Due.yes("the 200th", desk.claim(4, 39));
        Due.no("a 201st", desk.claim(5, 39));
        Due.no("a 201st again", desk.claim(5, 0));
        Due.same("CLAIMS", 200, desk.count(7));
        Due.isMissing("a 201st of nobody", () -> desk.claim(6, 0) ? 1 : 0);
        Due.isMissing("a 201st on nothing", () -> desk.claim(0, 40) ? 1 : 0);
    }

    private static void claimOnOthers() {
        Due.by("Promise 14", "NoSuchElementException: no such SALE (as everywhere: the FACT's number).");
        SalePart desk = desk();
        IntFunction<Due.Call> claim = number -> () -> desk.claim(0, number) ? 1 : 0;
        Due.isMissing("FACT 0 of none", claim.apply(0));
        for (int kind = 0; kind <= 5; kind++) {
            tell(desk, kind);
            if (kind == 2) {
                Due.yes("a SALE", desk.claim(0, kind));
            } else {
                Due.isMissing("a FACT of KIND " + kind, claim.apply(kind));
            }
        }
        for (int number : Whole.far(-1, 6)) {
            Due.isMissing("FACT " + number + " of 6", claim.apply(number));
        }
        for (int person : Whole.far(-1, 6)) {
            Due.isMissing("of PERSON " + person, () -> desk.claim(person, 2) ? 1 : 0);
            Due.isMissing("of PERSON " + person + " on nothing", () -> desk.claim(person, 9) ? 1 : 0);
        }
        Due.yes("of PERSON 5", desk.claim(5, 2));
    }

    private static void refusedChangesNothing() {
        Due.by("Promises 9 to 14", "NONE, false or an exception: nothing is told by it");
        SalePart desk = desk();
        Texts.law(desk, 0, "rest 10000;", 0);
        desk.sale(0, 1, 2, 0, 0, 1000, 0);
        desk.sale(0, 2, 1, 20, 0, 1000, 0);
        desk.fact(5, 0, 0, 0, 0);
        desk.back(false, 1);
        desk.claim(0, 0);
        Whole.stays(desk, "refused FACTS", () -> {
            desk.death(0, 0, 36500);
            desk.death(0, -1, 0);
            desk.heir(0, 1, 13, 12);
            desk.sale(0, 1, 2, 0, 0, 0, 0);
            desk.fact(3, 0, 2, 2, 0);
            desk.fact(4, 0, 2, 2, 36500);
            desk.fact(5, 0, 0, 0, -1);
            desk.back(false, 1);
            desk.claim(0, 0);
            Due.isMissing("death", () -> desk.death(6, 0, 0));
            Due.isMissing("sale", () -> desk.sale(0, 1, 2, 0, 2, 1, 0));
            Due.isMissing("fact", () -> desk.fact(3, 0, 2, 6, 0));
            Due.isMissing("back", () -> desk.back(false, 3) ? 1 : 0);
            Due.isMissing("claim", () -> desk.claim(0, 2) ? 1 : 0);
        });
    }
}
