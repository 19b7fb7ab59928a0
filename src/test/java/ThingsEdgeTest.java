/** Promises 1 to 8 and 29 where the document names a boundary; each method is of one sentence. */
public final class ThingsEdgeTest {
    private static final int NONE = SalePart.NONE;
    private static final int LEAST = Integer.MIN_VALUE;
    private static final int MOST = Integer.MAX_VALUE;

    private ThingsEdgeTest() {
    }

    public static void main(String[] args) {
        nothingThere();
        objectsApart();
        sixLands();
        sixtyRates();
        withoutAnyOfSixty();
        rateNumbers();
        ratesOfDays();
        rateOfNoLand();
        ratesCutDown();
        thirtyPersons();
        sorts();
        personOfNoLand();
        thirtyWorks();
        workNumbers();
        workOfNobody();
        threeArtists();
        joinsUnlike();
        joinsWeights();
        joinsBehindSale();
        joinsNothing();
        fiveSocieties();
        fees();
        societyOfNoLand();
        eveningsRefused();
        eveningsTo999();
        counts();
        countsFull();
        countOfAnother();
        refusedChangesNothing();
        calls512();
        Due.end();
    }

    private static void nothingThere() {
        Due.by("Promise 1", "No LANDS, PERSONS, WORKS; TONIGHT 0.");
        SalePart desk = new SalePart();
        for (int what = 0; what <= 8; what++) {
            Due.same("count(" + what + ")", 0, desk.count(what));
        }
        for (int n : Whole.far(-1, 0, 1)) {
            Due.isMissing("person of LAND " + n, () -> desk.person(n, 0));
            Due.isMissing("rate of LAND " + n, () -> desk.rate(n, 0, 1000) ? 1 : 0);
            Due.isMissing("society of LAND " + n, () -> desk.society(n, 0));
            Due.isMissing("law of LAND " + n, () -> desk.law(n, 0, 0));
            Due.isMissing("attempt of LAND " + n, () -> desk.attempt(n, 0, 0));
            Due.isMissing("work of PERSON " + n, () -> desk.work(n, 1, 1, 0, 1, 1));
            Due.isMissing("death of PERSON " + n, () -> desk.death(n, 0, 0));
            Due.isMissing("heir of PERSON " + n, () -> desk.heir(n, n - 1, 1, 1));
            Due.isMissing("gets of PERSON " + n, () -> desk.gets(n, 0, 0));
            Due.isMissing("more of PERSON " + n, () -> desk.more(n));
            Due.isMissing("joins WORK " + n, () -> desk.joins(n, 0, 1));
            Due.isMissing("sale of WORK " + n, () -> desk.sale(n, 0, 1, 0, 0, 1, 0));
            Due.isMissing("with of WORK " + n, () -> desk.with(n, 0, 0));
            Due.isMissing("hidden of WORK " + n, () -> desk.hidden(n, NONE, 0, 0));
            Due.isMissing("net of society " + n, () -> desk.net(n, 0, 0));
            Due.isMissing("owes of society " + n, () -> desk.owes(n, n, 0, 0));
            Due.isMissing("sold of FACT " + n, () -> desk.sold(n, 0, 0));
            Due.isMissing("has of FACT " + n, () -> desk.has(n, 0, 0, 0));
            Due.isMissing("claim on FACT " + n, () -> desk.claim(0, n) ? 1 : 0);
            Due.isMissing("back of FACT " + n, () -> desk.back(false, n) ? 1 : 0);
            Due.isMissing("back of LAW " + n, () -> desk.back(true, n) ? 1 : 0);
        }
        Due.same("WORKS that an ENTRY may be", 0, desk.again(0, 1, 1, MOST));
        Due.same("the place of a FAULT", NONE, desk.fault());
        Due.same("payments on EVENING 0", 0, desk.payments(0, 0));
        Due.isRefused("payments on EVENING 1", () -> desk.payments(0, 1));
        Due.isRefused("payments on EVENING -1", () -> desk.payments(0, -1));
    }

    private static void objectsApart() {
        Due.by("Promise 1", "SalePart(): No LANDS, PERSONS, WORKS (nor what another object was told)");
        SalePart told = Desks.of(6, 30);
        told.work(0, 1, 1, 0, 1, 1);
        told.society(0, 0);
        told.sale(0, 1, 2, 0, 0, 1, 0);
        told.claim(0, 0);
        told.rate(0, 0, 5);
        told.feed(0x20202020, 0x20202020, 0x20202020, 0x20202020, 0x20202020);
        told.law(0, 20, 0);
        told.feed(0, 0, 0, 0, 0);
        told.evenings(9);
        SalePart other = new SalePart();
        for (int what = 0; what <= 8; what++) {
            Due.same("count(" + what + ") of another object", 0, other.count(what));
        }
    }

    private static void sixLands() {
        Due.by("Promise 2", "A LAND: its number. NONE: there are 6.");
        SalePart desk = new SalePart();
        for (int i = 0; i < 6; i++) {
            int next = i;
            Due.isMissing("LAND " + i + " ahead of it", () -> desk.person(next, 0));
            Due.same("land " + i, i, desk.land());
            Due.same("a PERSON of it", i, desk.person(i, 0));
        }
        for (int i = 0; i < 3; i++) {
            Due.same("a seventh", NONE, desk.land());
            Due.same("LANDS", 6, desk.count(1));
        }
        Due.isMissing("LAND 6", () -> desk.person(6, 0));
        Due.isMissing("LAND -1", () -> desk.person(-1, 0));
        Due.same("LAND 5", 6, desk.person(5, 0));
    }

    private static void sixtyRates() {
        Due.by("Promise 3", "A RATE: true. False: there are 60");
        SalePart desk = Desks.of(2, 2);
        desk.work(0, 1, 1, 0, 1, 1);
        desk.sale(0, 0, 1, 100, 0, 1000, 0);
        for (int i = 1; i <= 60; i++) {
            Due.no("one that isn't as told", desk.rate(i % 2, -1, 1000));
            Due.yes("rate " + i, desk.rate(i % 2, 100, i));
            Due.same("PRICE behind rate " + i, i == 1 ? 1000 : i / 2 * 2, desk.sold(0, 0, 0));
        }
        Due.no("a 61st", desk.rate(0, 100, 61));
        Due.no("a 61st of the other LAND", desk.rate(1, 100, 61));
        Due.same("PRICE behind it", 60, desk.sold(0, 0, 0));
    }

    private static void withoutAnyOfSixty() {
        Due.by("Terms, RATES", "1000 without (where 60 begin behind the DAY or are another LAND's)");
        SalePart desk = Desks.of(2, 2);
        desk.work(0, 1, 1, 0, 1, 1);
        desk.sale(0, 0, 1, 100, 0, 1000, 0);
        for (int i = 1; i <= 60; i++) {
            Due.yes("rate " + i, i % 2 == 0 ? desk.rate(0, 101, i) : desk.rate(1, 0, i));
            Due.same("PRICE behind rate " + i, 1000, desk.sold(0, 0, 0));
        }
    }

    private static void rateNumbers() {
        Due.by("Promise 3", "False: a number is not as told");
        SalePart desk = Desks.of(1, 0);
        for (int day : new int[] {0, 1, 36498, 36499}) {
            Due.yes("on DAY " + day, desk.rate(0, day, 1000));
        }
        for (int day : Whole.far(-2, -1, 36500, 36501)) {
            Due.no("on DAY " + day, desk.rate(0, day, 1000));
        }
        for (int parts : new int[] {1, 2, 99998, 99999}) {
            Due.yes("of parts " + parts, desk.rate(0, 0, parts));
        }
        for (int parts : Whole.far(-1, 0, 100000, 100001)) {
            Due.no("of parts " + parts, desk.rate(0, 0, parts));
        }
    }

    /** RATES from 100 and 200 on; then of like beginning that told last, whenever. */
    private static void ratesOfDays() {
        Due.by("Terms, RATES", "for a DAY the one with the latest beginning that isn't behind it counts, of like ones that "
                + "told last; 1000 without (whenever they were told)");
        SalePart desk = Desks.of(2, 2);
        desk.work(0, 1, 1, 0, 1, 1);
        int[] days = {0, 99, 100, 101, 199, 200, 201, 36499};
        for (int day : days) {
            desk.sale(0, 0, 1, day, 0, 1000, 0);
        }
        desk.evenings(3);
        prices(desk, days, "without", 1000, 1000, 1000, 1000, 1000, 1000, 1000, 1000);
        desk.rate(0, 200, 20);
        prices(desk, days, "with one", 1000, 1000, 1000, 1000, 1000, 20, 20, 20);
        desk.rate(0, 100, 10);
        desk.rate(1, 0, 9);
        prices(desk, days, "with one that begins ahead", 1000, 1000, 10, 10, 10, 20, 20, 20);
        desk.rate(0, 200, 21);
        prices(desk, days, "with a like one", 1000, 1000, 10, 10, 10, 21, 21, 21);
        desk.rate(0, 0, 1);
        desk.rate(0, 36499, 3);
        prices(desk, days, "with the first and the last DAY", 1, 1, 10, 10, 10, 21, 21, 3);
        desk.rate(0, 100, 1000);
        prices(desk, days, "with a like one of 1000", 1, 1, 1000, 1000, 1000, 21, 21, 3);
    }

    private static void prices(SalePart desk, int[] days, String with, int... due) {
        for (int k = 0; k <= 3; k += 3) {
            for (int i = 0; i < days.length; i++) {
                Due.same("PRICE on DAY " + days[i] + " " + with, due[i], desk.sold(i, 0, k));
            }
        }
    }

    private static void rateOfNoLand() {
        Due.by("Promise 3", "NoSuchElementException: no such LAND (as everywhere).");
        SalePart desk = Desks.of(2, 0);
        Due.yes("LAND 0", desk.rate(0, 0, 1000));
        Due.yes("LAND 1", desk.rate(1, 0, 1000));
        for (int land : Whole.far(-1, 2)) {
            Due.isMissing("LAND " + land, () -> desk.rate(land, 0, 1000) ? 1 : 0);
            Due.isMissing("LAND " + land + ", not as told", () -> desk.rate(land, -1, 0) ? 1 : 0);
        }
        for (int i = 2; i < 60; i++) {
            desk.rate(0, 0, 1000);
        }
        for (int land : Whole.far(-1, 2)) {
            Due.isMissing("LAND " + land + " beside 60", () -> desk.rate(land, 0, 1000) ? 1 : 0);
        }
        Due.no("LAND 1 beside 60", desk.rate(1, 0, 1000));
    }

    private static void ratesCutDown() {
        Due.by("Terms", "PRICE: price by its RATE, by 1000, cut down.");
        int[][] due = {{1, 999, 0}, {1, 1000, 1}, {1, 1001, 1}, {1, 1999, 1}, {1, 2000, 2}, {999, 1, 0}, {1000, 1, 1},
            {1001, 1, 1}, {1, 99999, 99}, {20000000, 1, 20000}, {20000000, 99999, 1999980000},
            {19999999, 99999, 1999979900}, {3, 333, 0}, {3, 334, 1}, {21475, 99999, 2147478}, {2147484, 1001, 2149631}};
        for (int[] one : due) {
            SalePart desk = Desks.of(1, 2);
            desk.work(0, 1, 1, 0, 1, 1);
            desk.rate(0, 0, one[1]);
            desk.sale(0, 0, 1, 0, 0, one[0], 0);
            Due.same("PRICE of " + one[0] + " by " + one[1], one[2], desk.sold(0, 0, 0));
        }
    }

    private static void thirtyPersons() {
        Due.by("Promise 4", "A PERSON: the number. NONE: there are 30");
        SalePart desk = Desks.of(1, 0);
        for (int i = 0; i < 30; i++) {
            int next = i;
            Due.isMissing("PERSON " + i + " ahead of it", () -> desk.more(next));
            Due.same("person " + i, i, desk.person(0, i % 3));
            Due.same("PERSON " + i + " behind it", 0, desk.more(i));
        }
        for (int sort = -1; sort <= 3; sort++) {
            Due.same("a 31st", NONE, desk.person(0, sort));
        }
        Due.same("PERSONS", 30, desk.count(2));
        Due.isMissing("PERSON 30", () -> desk.more(30));
        Due.isMissing("PERSON -1", () -> desk.more(-1));
    }

    private static void sorts() {
        Due.by("Promise 4", "NONE: the sort is not as told.");
        SalePart desk = Desks.of(1, 0);
        for (int sort : Whole.far(-2, -1, 3, 4)) {
            Due.same("sort " + sort, NONE, desk.person(0, sort));
        }
        Due.same("PERSONS", 0, desk.count(2));
        for (int sort = 0; sort <= 2; sort++) {
            Due.same("sort " + sort, sort, desk.person(0, sort));
        }
    }

    private static void personOfNoLand() {
        Due.by("Promise 4", "NoSuchElementException: no such LAND (as everywhere).");
        SalePart desk = Desks.of(3, 0);
        for (int land : Whole.far(-1, 3)) {
            Due.isMissing("LAND " + land, () -> desk.person(land, 0));
            Due.isMissing("LAND " + land + ", no such sort", () -> desk.person(land, 3));
        }
        Due.same("LAND 2", 0, desk.person(2, 0));
        for (int i = 1; i < 30; i++) {
            desk.person(0, 0);
        }
        for (int land : Whole.far(-1, 3)) {
            Due.isMissing("LAND " + land + " beside 30", () -> desk.person(land, 0));
        }
    }

    private static void thirtyWorks() {
        Due.by("Promise 5", "A WORK of one ARTIST: its number. NONE: there are 30");
        SalePart desk = Desks.of(1, 1);
        for (int i = 0; i < 30; i++) {
            int next = i;
            Due.isMissing("WORK " + i + " ahead of it", () -> desk.with(next, 0, 0));
            Due.same("work " + i, i, desk.work(0, 1, 1, 0, 1, 1));
            Due.same("WORK " + i + " behind it", NONE, desk.with(i, 0, 0));
        }
        Due.same("a 31st", NONE, desk.work(0, 1, 1, 0, 1, 1));
        Due.same("WORKS", 30, desk.count(3));
        Due.isMissing("WORK 30", () -> desk.with(30, 0, 0));
        Due.same("all that an ENTRY may be", 0x3fffffff, desk.again(0, 1, 1, 0));
    }

    private static void workNumbers() {
        Due.by("Promise 5", "NONE: a number is not as told.");
        int[] least = {1, 1, 0, 1, 1};
        int[] most = {9, 99, 65535, 999, 999};
        SalePart desk = Desks.of(1, 1);
        for (int i = 0; i < 5; i++) {
            for (int number : new int[] {least[i] - 1, most[i] + 1, LEAST, MOST}) {
                Due.same("number " + i + " of " + number, NONE, workOf(desk, least, i, number));
                Due.same("number " + i + " of " + number, NONE, workOf(desk, most, i, number));
            }
        }
        Due.same("WORKS", 0, desk.count(3));
        int made = 0;
        for (int i = 0; i < 5; i++) {
            for (int number : new int[] {least[i], least[i] + 1, most[i] - 1, most[i]}) {
                Due.same("number " + i + " of " + number, made, workOf(desk, i % 2 == 0 ? least : most, i, number));
                made++;
            }
        }
    }

    private static int workOf(SalePart desk, int[] numbers, int i, int number) {
        int[] all = numbers.clone();
        all[i] = number;
        return desk.work(0, all[0], all[1], all[2], all[3], all[4]);
    }

    private static void workOfNobody() {
        Due.by("Promise 5", "NoSuchElementException: no such PERSON (as everywhere).");
        SalePart desk = Desks.of(1, 4);
        for (int artist : Whole.far(-1, 4)) {
            Due.isMissing("PERSON " + artist, () -> desk.work(artist, 1, 1, 0, 1, 1));
            Due.isMissing("PERSON " + artist + ", not as told", () -> desk.work(artist, 0, 0, -1, 0, 0));
        }
        Due.same("PERSON 3", 0, desk.work(3, 1, 1, 0, 1, 1));
        for (int i = 1; i < 30; i++) {
            desk.work(0, 1, 1, 0, 1, 1);
        }
        Due.isMissing("PERSON 4 beside 30", () -> desk.work(4, 1, 1, 0, 1, 1));
    }

    private static void threeArtists() {
        Due.by("Promise 6", "One ARTIST more: how many it has. NONE: it has three");
        SalePart desk = Desks.of(1, 5);
        desk.work(0, 1, 1, 0, 1, 1);
        Due.same("the second", 2, desk.joins(0, 1, 1));
        Due.same("the third", 3, desk.joins(0, 2, 1));
        Due.same("a fourth", NONE, desk.joins(0, 3, 1));
        Due.same("a fourth again", NONE, desk.joins(0, 4, 1));
        Texts.law(desk, 0, "due joint = 3; rest 10000;", 0);
        desk.sale(0, 3, 4, 0, 0, 300, 0);
        int[] due = {100, 100, 100, 0, 0};
        for (int p = 0; p < due.length; p++) {
            Due.same("what is PERSON " + p + "'s", due[p], desk.has(0, p, 0, 0));
        }
    }

    private static void joinsUnlike() {
        Due.by("Promise 6", "NONE: it has that one");
        SalePart desk = Desks.of(1, 3);
        desk.work(0, 1, 1, 0, 1, 1);
        desk.work(1, 1, 1, 0, 1, 1);
        Due.same("the first again", NONE, desk.joins(0, 0, 2));
        Due.same("that of another WORK", 2, desk.joins(0, 1, 1));
        Due.same("the second again", NONE, desk.joins(0, 1, 2));
        Due.same("the first once more", NONE, desk.joins(0, 0, 2));
        Due.same("a third", 3, desk.joins(0, 2, 1));
        Due.same("the third again", NONE, desk.joins(0, 2, 1));
        Due.same("the other WORK", 2, desk.joins(1, 0, 1));
    }

    private static void joinsWeights() {
        Due.by("Promise 6", "NONE: the weight is not as told");
        SalePart desk = Desks.of(1, 5);
        desk.work(0, 9, 1, 0, 1, 1);
        for (int weight : Whole.far(-1, 0, 10, 11)) {
            Due.same("weight " + weight, NONE, desk.joins(0, 1, weight));
        }
        Due.same("weight 1", 2, desk.joins(0, 1, 1));
        Due.same("weight 9", 3, desk.joins(0, 2, 9));
        Texts.law(desk, 0, "rest 10000;", 0);
        desk.sale(0, 3, 4, 0, 0, 1900, 0);
        int[] due = {900, 100, 900};
        for (int p = 0; p < due.length; p++) {
            Due.same("what is PERSON " + p + "'s", due[p], desk.has(0, p, 0, 0));
        }
    }

    private static void joinsBehindSale() {
        Due.by("Promise 6", "NONE: a SALE of it was told.");
        SalePart desk = Desks.of(1, 4);
        desk.work(0, 1, 1, 0, 1, 1);
        desk.work(0, 1, 1, 0, 1, 1);
        desk.fact(3, 0, 0, 1, 0);
        desk.fact(4, 0, 0, 1, 0);
        desk.death(0, 0, 0);
        Due.same("a SALE of it that was refused", NONE, desk.sale(0, 1, 1, 0, 0, 1, 0));
        desk.sale(1, 0, 1, 0, 0, 1, 0);
        Due.same("behind a SALE of another one, GIFT, SEEN", 2, desk.joins(0, 1, 1));
        Due.same("the other one", NONE, desk.joins(1, 1, 1));
        desk.sale(0, 2, 3, 36499, 0, 1, 0);
        Due.same("behind a SALE of it", NONE, desk.joins(0, 2, 1));
        desk.back(false, 4);
        Due.same("behind one TAKEN BACK", NONE, desk.joins(0, 2, 1));
        desk.evenings(1);
        Due.same("behind one TAKEN BACK long ago", NONE, desk.joins(0, 2, 1));
    }

    private static void joinsNothing() {
        Due.by("Promise 6", "NoSuchElementException: no such WORK (as everywhere).");
        SalePart desk = Desks.of(1, 2);
        desk.work(0, 1, 1, 0, 1, 1);
        for (int n : Whole.far(-1, 1)) {
            Due.isMissing("WORK " + n, () -> desk.joins(n, 1, 1));
            Due.isMissing("WORK " + n + ", not as told", () -> desk.joins(n, 0, 0));
        }
        for (int n : Whole.far(-1, 2)) {
            Due.isMissing("PERSON " + n, () -> desk.joins(0, n, 1));
            Due.isMissing("PERSON " + n + ", not as told", () -> desk.joins(0, n, 10));
        }
        Due.same("PERSON 1", 2, desk.joins(0, 1, 1));
        desk.sale(0, 0, 1, 0, 0, 1, 0);
        Due.isMissing("PERSON 2 behind a SALE", () -> desk.joins(0, 2, 1));
    }

    private static void fiveSocieties() {
        Due.by("Promise 7", "A SOCIETY: its number. NONE: there are 5");
        SalePart desk = Desks.of(1, 0);
        for (int i = 0; i < 5; i++) {
            int next = i;
            Due.isMissing("society " + i + " ahead of it", () -> desk.net(next, 0, 0));
            Due.same("one whose fee isn't as told", NONE, desk.society(0, -1));
            Due.same("society " + i, i, desk.society(0, 0));
            Due.same("NET of it", 0, desk.net(i, 0, 0));
        }
        Due.same("a sixth", NONE, desk.society(0, 0));
        Due.same("societies", 5, desk.count(4));
        Due.isMissing("society 5", () -> desk.net(5, 0, 0));
        Due.isMissing("society -1", () -> desk.net(-1, 0, 0));
    }

    private static void fees() {
        Due.by("Promise 7", "NONE: the fee is not as told.");
        SalePart desk = Desks.of(1, 0);
        for (int fee : Whole.far(-2, -1, 301, 302)) {
            Due.same("fee " + fee, NONE, desk.society(0, fee));
        }
        int[] fees = {0, 1, 299, 300};
        for (int i = 0; i < fees.length; i++) {
            Due.same("fee " + fees[i], i, desk.society(0, fees[i]));
        }
    }

    private static void societyOfNoLand() {
        Due.by("Promise 7", "NoSuchElementException (no such LAND, as everywhere)");
        SalePart desk = Desks.of(2, 0);
        for (int land : Whole.far(-1, 2)) {
            Due.isMissing("LAND " + land, () -> desk.society(land, 0));
            Due.isMissing("LAND " + land + ", no such fee", () -> desk.society(land, 301));
        }
        for (int i = 0; i < 5; i++) {
            Due.same("LAND 1", i, desk.society(1, 0));
        }
        Due.isMissing("LAND 2 beside 5", () -> desk.society(2, 0));
    }

    private static void eveningsRefused() {
        Due.by("Promise 8", "IllegalArgumentException: n is below 0, or it would be above 999.");
        SalePart desk = new SalePart();
        for (int n : Whole.far(-2, -1, 1000, 1001)) {
            Due.isRefused("EVENINGS " + n + " of 0", () -> desk.evenings(n));
            Due.same("TONIGHT", 0, desk.count(0));
        }
        Due.same("0 of 0", 0, desk.evenings(0));
        Due.same("1 of 0", 1, desk.evenings(1));
        for (int n : Whole.far(-1, 999, 1000)) {
            Due.isRefused("EVENINGS " + n + " of 1", () -> desk.evenings(n));
            Due.same("TONIGHT", 1, desk.count(0));
        }
        Due.same("998 of 1", 999, desk.evenings(998));
        for (int n : Whole.far(-999, -1, 1, 2, MOST - 998, MOST - 999)) {
            Due.isRefused("EVENINGS " + n + " of 999", () -> desk.evenings(n));
            Due.same("TONIGHT", 999, desk.count(0));
        }
        Due.same("0 of 999", 999, desk.evenings(0));
    }

    private static void eveningsTo999() {
        Due.by("Promise 8", "n EVENINGS go by: TONIGHT.");
        SalePart all = new SalePart();
        Due.same("999 at once", 999, all.evenings(999));
        Due.same("payments on EVENING 999", 0, all.payments(0, 999));
        Due.isRefused("payments on EVENING 1000", () -> all.payments(0, 1000));
        SalePart most = new SalePart();
        Due.same("998 at once", 998, most.evenings(998));
        Due.isRefused("payments on EVENING 999", () -> most.payments(0, 999));
        Due.isRefused("two more", () -> most.evenings(2));
        Due.same("one more", 999, most.evenings(1));
    }

    private static void counts() {
        Due.by("Promise 29", "0 TONIGHT, 1 LANDS, 2 PERSONS, 3 WORKS, 4 societies, 5 FACTS, 6 LAWS, 7 CLAIMS, 8 bytes");
        SalePart desk = new SalePart();
        int[] due = new int[9];
        counted(desk, due, "new");
        desk.evenings(1);
        due[0]++;
        counted(desk, due, "evenings");
        desk.land();
        due[1]++;
        counted(desk, due, "land");
        desk.rate(0, 0, 1);
        counted(desk, due, "rate");
        desk.person(0, 0);
        due[2]++;
        counted(desk, due, "person");
        desk.person(0, 0);
        due[2]++;
        desk.work(0, 1, 1, 0, 1, 1);
        due[3]++;
        counted(desk, due, "work");
        desk.joins(0, 1, 1);
        counted(desk, due, "joins");
        desk.society(0, 0);
        due[4]++;
        counted(desk, due, "society");
        countsTold(desk, due);
        countsOfTexts(desk, due);
    }

    private static void countsTold(SalePart desk, int[] due) {
        desk.sale(0, 0, 1, 0, 0, 1, 0);
        due[5]++;
        counted(desk, due, "sale");
        desk.claim(0, 0);
        due[7]++;
        counted(desk, due, "claim");
        desk.claim(0, 0);
        counted(desk, due, "claim again");
        desk.death(0, 0, 0);
        due[5]++;
        counted(desk, due, "death");
        desk.heir(0, 1, 1, 1);
        due[5]++;
        counted(desk, due, "heir");
        for (int kind = 3; kind <= 5; kind++) {
            desk.fact(kind, 0, 1, 0, 0);
            due[5]++;
            counted(desk, due, "fact of kind " + kind);
        }
        desk.back(false, 0);
        counted(desk, due, "back of a FACT");
    }

    private static void countsOfTexts(SalePart desk, int[] due) {
        desk.feed(0x20202020, 0x20202020, 0x20202020, 0x20202020, 0x20202020);
        due[8] += 20;
        counted(desk, due, "feed");
        desk.law(0, 1, 0);
        due[8] = 0;
        due[6]++;
        counted(desk, due, "law");
        desk.back(true, 0);
        counted(desk, due, "back of a LAW");
        desk.feed(1, 1, 1, 1, 1);
        desk.law(0, 1, 0);
        counted(desk, due, "law with a FAULT");
        desk.feed(0x20202020, 0x20202020, 0x20202020, 0x20202020, 0x20202020);
        desk.attempt(0, 1, 0);
        counted(desk, due, "attempt");
    }

    private static void counted(SalePart desk, int[] due, String behind) {
        for (int what = 0; what < due.length; what++) {
            Due.same("count(" + what + ") behind " + behind, due[what], desk.count(what));
        }
    }

    private static void countsFull() {
        Due.by("Promise 29", "0 TONIGHT .. 8 bytes of the tape (each at the most that it may be)");
        SalePart desk = Desks.of(7, 31);
        for (int i = 0; i < 31; i++) {
            desk.work(0, 1, 1, 0, 1, 1);
        }
        for (int i = 0; i < 6; i++) {
            desk.society(0, 0);
        }
        for (int i = 0; i < 13; i++) {
            desk.law(0, 0, 0);
        }
        for (int i = 0; i < 101; i++) {
            desk.sale(0, 0, 1, 0, 0, 1, 0);
        }
        for (int i = 0; i < 201; i++) {
            desk.claim(i / 100, i % 100);
        }
        for (int i = 0; i < 26; i++) {
            desk.feed(0, 0, 0, 0, 0);
        }
        desk.evenings(999);
        int[] due = {999, 6, 30, 30, 5, 101, 12, 200, 500};
        counted(desk, due, "all");
    }

    private static void countOfAnother() {
        Due.by("Promise 29", "NoSuchElementException: another what.");
        SalePart desk = new SalePart();
        for (int what : Whole.far(-2, -1, 9, 10)) {
            Due.isMissing("count(" + what + ")", () -> desk.count(what));
        }
        Due.same("count(0)", 0, desk.count(0));
        Due.same("count(8)", 0, desk.count(8));
    }

    private static void calls512() {
        Due.by("What it is", "An object is used for at most 512 calls after it has been made");
        SalePart desk = Desks.ofWork(2, 4);
        for (int i = 0; i < 200; i++) {
            desk.sale(0, 1 + i % 2, 2 - i % 2, 5 * i, 0, 1000 + i, 0);
        }
        for (int i = 0; i < 200; i++) {
            desk.claim(0, i);
        }
        Texts.law(desk, 0, "rest 10000;", 0);
        for (int i = 0; i < 102; i++) {
            Due.same("call " + (410 + i), 1000 + i, desk.has(i, 0, 3, 0));
        }
        // Of YEAR 1 are those of the numbers 73 to 145.
        Due.same("call 512", 73 * 1000 + 73 * 109, desk.gets(0, 1, 0));
    }

    private static void refusedChangesNothing() {
        Due.by("Promises 2 to 8", "NONE, false or an exception: nothing is told by it");
        SalePart desk = Desks.of(6, 30);
        desk.work(0, 1, 1, 0, 1, 1);
        desk.society(0, 100);
        Texts.law(desk, 0, "rest 10000;", 0);
        desk.sale(0, 1, 2, 0, 0, 1000, 0);
        desk.fact(5, 0, 0, 0, 0);
        Whole.stays(desk, "refused things", () -> {
            desk.land();
            desk.person(0, 0);
            desk.rate(0, 0, 0);
            desk.rate(0, -1, 500);
            desk.rate(0, 0, 100000);
            desk.work(0, 0, 1, 0, 1, 1);
            desk.joins(0, 1, 1);
            desk.society(0, 301);
            Due.isRefused("evenings", () -> desk.evenings(1000));
            Due.isMissing("rate", () -> desk.rate(6, 0, 500) ? 1 : 0);
            Due.isMissing("joins", () -> desk.joins(0, 30, 1));
        });
    }
}
