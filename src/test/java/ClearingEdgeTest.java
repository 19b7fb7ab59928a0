import java.util.Arrays;

/** Promises 20 to 23 where the document names a boundary; each method is of one sentence. */
public final class ClearingEdgeTest {
    private ClearingEdgeTest() {
    }

    public static void main(String[] args) {
        years();
        noSuchYear();
        noSuchEvening();
        getsOfNobody();
        noSuchSociety();
        knownOnEvenings();
        knownByAllElse();
        getsMoreThanAnInt();
        owesMoreThanAnInt();
        netThatWraps();
        owesItself();
        owesAll();
        owedToThirty();
        owedWhole();
        owedByMandateAlone();
        owedToNobody();
        firstAndLastFact();
        withoutOneThatCollects();
        netOfAll();
        withoutSocieties();
        fewest();
        fewestOfDrawn();
        Due.end();
    }

    /** Five LANDS; in each a society and a PERSON of it, then a seller and a buyer; WORK i is of PERSON i. */
    private static SalePart desk(int fee) {
        SalePart desk = Desks.of(5, 0);
        for (int i = 0; i < 5; i++) {
            desk.society(i, fee);
            desk.person(i, 0);
            desk.work(i, 1, 1, 0, 1, 1);
            Texts.law(desk, i, "rest 10000; agrees 0; agrees 1; agrees 2; agrees 3; agrees 4;", 0);
            desk.fact(5, 0, i, i, 0);
        }
        desk.person(0, 0);
        desk.person(0, 0);
        return desk;
    }

    /** A SALE by which the society from owes the society to so much. */
    private static void owe(SalePart desk, int from, int to, int much, int day) {
        desk.sale(to, 5, 6, day, from, much, 0);
    }

    private static void years() {
        Due.by("Terms", "DAYS of the world from 0 to 36499, 365 a YEAR.");
        SalePart desk = desk(0);
        int[] days = {0, 1, 363, 364, 365, 366, 729, 730, 36134, 36135, 36498, 36499};
        long[] gets = new long[100];
        for (int i = 0; i < days.length; i++) {
            owe(desk, 0, 1, 1 << i, days[i]);
            gets[days[i] / 365] += 1 << i;
        }
        for (int year : new int[] {0, 1, 2, 3, 50, 97, 98, 99}) {
            Due.same("GETS in YEAR " + year, gets[year], desk.gets(1, year, 0));
            Due.same("owes in YEAR " + year, gets[year], desk.owes(0, 1, year, 0));
            Due.same("NET in YEAR " + year, gets[year], desk.net(1, year, 0));
            Due.same("payments in YEAR " + year, gets[year] == 0 ? 0 : 1, desk.payments(year, 0));
        }
    }

    private static void noSuchYear() {
        Due.by("Promises 20 to 23", "NoSuchElementException: also no such YEAR (0 to 99)");
        SalePart desk = desk(0);
        for (int year : Whole.far(-2, -1, 100, 101)) {
            for (int k = -1; k <= 1; k++) {
                int on = k;
                Due.isMissing("gets in YEAR " + year, () -> desk.gets(0, year, on));
                Due.isMissing("owes in YEAR " + year, () -> desk.owes(0, 1, year, on));
                Due.isMissing("owes itself in YEAR " + year, () -> desk.owes(1, 1, year, on));
                Due.isMissing("net in YEAR " + year, () -> desk.net(0, year, on));
                Due.isMissing("payments in YEAR " + year, () -> desk.payments(year, on));
            }
        }
        for (int year : new int[] {0, 1, 98, 99}) {
            Due.same("gets in YEAR " + year, 0, desk.gets(0, year, 0));
            Due.same("owes in YEAR " + year, 0, desk.owes(0, 1, year, 0));
            Due.same("net in YEAR " + year, 0, desk.net(0, year, 0));
            Due.same("payments in YEAR " + year, 0, desk.payments(year, 0));
        }
    }

    private static void noSuchEvening() {
        Due.by("Promises 20 to 23", "IllegalArgumentException likewise (no such EVENING: 0 to TONIGHT).");
        SalePart desk = desk(0);
        owe(desk, 0, 1, 50, 0);
        for (int tonight : new int[] {0, 1, 999}) {
            desk.evenings(tonight - desk.count(0));
            for (int k : Whole.far(-1, tonight + 1)) {
                for (int year = 0; year <= 99; year += 99) {
                    int of = year;
                    Due.isRefused("gets on EVENING " + k, () -> desk.gets(0, of, k));
                    Due.isRefused("owes on EVENING " + k, () -> desk.owes(0, 1, of, k));
                    Due.isRefused("owes itself on EVENING " + k, () -> desk.owes(1, 1, of, k));
                    Due.isRefused("net on EVENING " + k, () -> desk.net(0, of, k));
                    Due.isRefused("payments on EVENING " + k, () -> desk.payments(of, k));
                }
            }
            for (int k : new int[] {0, tonight}) {
                Due.same("gets on EVENING " + k, 50, desk.gets(1, 0, k));
                Due.same("owes on EVENING " + k, 50, desk.owes(0, 1, 0, k));
                Due.same("net on EVENING " + k, -50, desk.net(0, 0, k));
                Due.same("payments on EVENING " + k, 1, desk.payments(0, k));
            }
        }
    }

    private static void getsOfNobody() {
        Due.by("Promise 20", "throws NoSuchElementException (no such PERSON, as everywhere)");
        SalePart desk = desk(0);
        for (int person : Whole.far(-1, 7, 8, 30)) {
            for (int k = -1; k <= 1; k++) {
                int on = k;
                Due.isMissing("gets of PERSON " + person, () -> desk.gets(person, 0, on));
                Due.isMissing("gets of PERSON " + person + " in no YEAR", () -> desk.gets(person, 100, on));
            }
        }
        Due.same("gets of PERSON 6", 0, desk.gets(6, 0, 0));
        Due.same("gets of PERSON 0", 0, desk.gets(0, 0, 0));
    }

    private static void noSuchSociety() {
        Due.by("Promise 21", "NoSuchElementException: no such society (as everywhere)");
        SalePart desk = desk(0);
        for (int none : Whole.far(-1, 5, 6)) {
            for (int k = -1; k <= 1; k++) {
                int on = k;
                Due.isMissing("society " + none + " owes", () -> desk.owes(none, 0, 0, on));
                Due.isMissing("society " + none + " is owed", () -> desk.owes(0, none, 0, on));
                Due.isMissing("society " + none + " owes itself", () -> desk.owes(none, none, 0, on));
                Due.isMissing("NET of society " + none, () -> desk.net(none, 0, on));
            }
        }
        for (int one = 0; one < 5; one++) {
            Due.same("NET of society " + one, 0, desk.net(one, 0, 0));
            Due.same("society " + one + " owes 4", 0, desk.owes(one, 4, 0, 0));
        }
        SalePart two = Desks.of(1, 0);
        two.society(0, 0);
        two.society(0, 0);
        Due.same("NET of the second of two", 0, two.net(1, 0, 0));
        Due.isMissing("NET of a third of two", () -> two.net(2, 0, 0));
    }

    private static void knownOnEvenings() {
        Due.by("Promise 20", "All that a PERSON GETS of SALES of a YEAR, as known on EVENING k.");
        SalePart desk = desk(100);
        desk.evenings(2);
        owe(desk, 0, 1, 1000, 5);
        desk.evenings(2);
        owe(desk, 2, 1, 100, 6);
        desk.back(false, 5);
        desk.evenings(1);
        int[] owed = {0, 0, 1000, 1000, 0, 0};
        int[] others = {0, 0, 0, 0, 100, 100};
        for (int k = 0; k <= 5; k++) {
            Due.same("GETS on EVENING " + k, (owed[k] + others[k]) * 9 / 10, desk.gets(1, 0, k));
            Due.same("society 0 owes on EVENING " + k, owed[k], desk.owes(0, 1, 0, k));
            Due.same("society 2 owes on EVENING " + k, others[k], desk.owes(2, 1, 0, k));
            Due.same("NET on EVENING " + k, owed[k] + others[k], desk.net(1, 0, k));
            Due.same("payments on EVENING " + k, k < 2 ? 0 : 1, desk.payments(0, k));
        }
    }

    /** A SALE on EVENING 0; then its LAW, a MANDATE, a DEATH and an HEIR, each an EVENING later. */
    private static void knownByAllElse() {
        Due.by("Promises 20 to 23", "as known on EVENING k (the LAW, the MANDATE, the DEATH, the HEIR too)");
        SalePart desk = desk(100);
        desk.back(false, 1);
        for (int law = 0; law < 5; law++) {
            desk.back(true, law);
        }
        owe(desk, 0, 1, 1000, 500);
        desk.evenings(1);
        Texts.law(desk, 0, "rest 10000; agrees 1;", 0);
        desk.evenings(1);
        desk.fact(5, 0, 1, 3, 0);
        desk.evenings(1);
        desk.death(1, 0, 500);
        desk.evenings(1);
        desk.heir(1, 2, 1, 2);
        desk.evenings(1);
        desk.back(false, 7);
        desk.evenings(1);
        desk.back(false, 6);
        int[][] due = {{0, 0, 0, 0}, {0, 0, 0, 0}, {900, 0, 1000, 0}, {0, 0, 0, 0}, {0, 450, 0, 500}, {900, 0, 1000, 0},
            {0, 0, 0, 0}};
        for (int k = 0; k <= 6; k++) {
            String on = " on EVENING " + k;
            Due.same("the ARTIST GETS" + on, due[k][0], desk.gets(1, 1, k));
            Due.same("the HEIR GETS" + on, due[k][1], desk.gets(2, 1, k));
            Due.same("owed for the ARTIST" + on, due[k][2], desk.owes(0, 3, 1, k));
            Due.same("owed for the HEIR" + on, due[k][3], desk.owes(0, 2, 1, k));
            Due.same("NET" + on, -due[k][2] - due[k][3], desk.net(0, 1, k));
            Due.same("payments" + on, due[k][2] + due[k][3] > 0 ? 1 : 0, desk.payments(1, k));
        }
    }

    /** With so many SALES of the highest PRICE, by which society 0 owes society 1: how much it owes. */
    private static long oweHighest(SalePart desk, int many) {
        desk.rate(0, 0, 99999);
        for (int i = 0; i < many; i++) {
            owe(desk, 0, 1, 20000000, i);
        }
        return 1999980000L * many;
    }

    private static void getsMoreThanAnInt() {
        Due.by("Promise 20", "long gets(..): All that a PERSON GETS (more than an int holds)");
        for (int many : new int[] {1, 2, 3, 190}) {
            SalePart desk = desk(0);
            long all = oweHighest(desk, many);
            Due.same("GETS of " + many + " SALES", all, desk.gets(1, 0, 0));
            Due.same("GETS of another one", 0, desk.gets(0, 0, 0));
        }
    }

    private static void owesMoreThanAnInt() {
        Due.by("Promises 21, 22", "long owes(..), long net(..) (more than an int holds, either way)");
        for (int many : new int[] {1, 2, 3, 190}) {
            SalePart desk = desk(300);
            long all = oweHighest(desk, many);
            Due.same("owes of " + many + " SALES", all, desk.owes(0, 1, 0, 0));
            Due.same("NET of " + many + " SALES", all, desk.net(1, 0, 0));
            Due.same("NET of " + many + " SALES", -all, desk.net(0, 0, 0));
            Due.same("payments of " + many + " SALES", 1, desk.payments(0, 0));
        }
    }

    private static void netThatWraps() {
        Due.by("Promise 23", "THE FEWEST payments for a YEAR (of NETS that would be 0 as ints)");
        SalePart wraps = desk(0);
        long left = 4294967296L - oweHighest(wraps, 2);
        while (left > 0) {
            int next = (int) Math.min(left, 20000000);
            owe(wraps, 2, 1, next, 0);
            left -= next;
        }
        Due.same("NET of 4294967296", 4294967296L, wraps.net(1, 0, 0));
        Due.same("payments of it", 2, wraps.payments(0, 0));
    }

    private static void owesItself() {
        Due.by("Promise 21", "What one society owes another one (one: 0)");
        SalePart desk = desk(0);
        for (int one = 0; one < 5; one++) {
            owe(desk, one, one, 100, 0);
            owe(desk, one, (one + 1) % 5, 10, 0);
        }
        for (int one = 0; one < 5; one++) {
            Due.same("owes itself", 0, desk.owes(one, one, 0, 0));
            Due.same("owes the next", 10, desk.owes(one, (one + 1) % 5, 0, 0));
            Due.same("owes the one ahead", 0, desk.owes((one + 1) % 5, one, 0, 0));
            Due.same("NET", 0, desk.net(one, 0, 0));
            Due.same("GETS", 110, desk.gets(one, 0, 0));
        }
        Due.same("payments", 0, desk.payments(0, 0));
    }

    /** WORK i sold in each LAND, the MANDATE of PERSON i being to the society so many behind its own. */
    private static void owesAll() {
        Due.by("Promise 21", "What one society owes another one (whichever PERSONS and societies they are)");
        for (int behind = 0; behind < 5; behind++) {
            SalePart desk = desk(0);
            for (int i = 0; i < 5; i++) {
                desk.fact(5, 0, i, (i + behind) % 5, 0);
                for (int land = 0; land < 5; land++) {
                    owe(desk, land, i, 1 + 10 * land + 100 * i, 0);
                }
            }
            for (int one = 0; one < 5; one++) {
                long net = 0;
                for (int other = 0; other < 5; other++) {
                    int owed = 1 + 10 * one + 100 * ((other - behind + 5) % 5);
                    Due.same(one + " owes " + other, one == other ? 0 : owed, desk.owes(one, other, 0, 0));
                    net += 1 + 10 * other + 100 * ((one - behind + 5) % 5) - owed;
                }
                Due.same("NET of " + one, net, desk.net(one, 0, 0));
            }
        }
    }

    /** Each of 30 PERSONS by a SALE of its own WORK. */
    private static void owedToThirty() {
        Due.by("Terms", "PERSONS, from 0 on, at most 30 (what goes to each of them is owed)");
        SalePart desk = Desks.of(1, 30);
        desk.society(0, 0);
        desk.society(0, 0);
        Texts.law(desk, 0, "due 1; rest 10000;", 0);
        int owed = 0;
        for (int i = 0; i < 30; i++) {
            desk.work(i, 1, 1, 0, 1, 1);
            desk.fact(5, 0, i, 1, 0);
            desk.sale(i, i, (i + 1) % 30, 0, 0, 1000 + i, 0);
            owed += 1000 + i;
            Due.same("owed to PERSONS 0 to " + i, owed, desk.owes(0, 1, 0, 0));
            Due.same("NET by PERSONS 0 to " + i, -owed, desk.net(0, 0, 0));
            Due.same("GETS " + i, 1000 + i, desk.gets(i, 0, 0));
        }
    }

    private static void owedWhole() {
        Due.by("Terms, CLEARING", "is owed by this one to that one, whole (whatever the fee)");
        for (int fee : new int[] {0, 1, 300}) {
            SalePart desk = desk(fee);
            owe(desk, 0, 1, 1000, 0);
            Due.same("owed with a fee of " + fee, 1000, desk.owes(0, 1, 0, 0));
            Due.same("NET with a fee of " + fee, 1000, desk.net(1, 0, 0));
            Due.same("GETS with a fee of " + fee, 1000 - fee, desk.gets(1, 0, 0));
        }
    }

    private static void owedByMandateAlone() {
        Due.by("Terms, CLEARING", "what goes by MANDATE to a PERSON of another society than that which COLLECTS is owed");
        for (int day = 99; day <= 101; day++) {
            SalePart desk = desk(0);
            desk.back(false, 1);
            desk.fact(5, 0, 1, 2, day);
            owe(desk, 0, 1, 1000, 100);
            desk.claim(1, 6);
            Due.same("owed by a MANDATE from " + day, day <= 100 ? 1000 : 0, desk.owes(0, 2, 0, 0));
            Due.same("owed to the society ahead", 0, desk.owes(0, 1, 0, 0));
            Due.same("GETS by it or the CLAIM", 1000, desk.gets(1, 0, 0));
        }
        SalePart dead = desk(0);
        dead.death(1, 0, 100);
        owe(dead, 0, 1, 1000, 99);
        owe(dead, 0, 1, 200, 100);
        Due.same("owed for who isn't DEAD", 1000, dead.owes(0, 1, 0, 0));
        dead.heir(1, 2, 1, 2);
        Due.same("owed for the HEIR of who is DEAD", 100, dead.owes(0, 2, 0, 0));
        Due.same("NET of the one that COLLECTS", -1100, dead.net(0, 0, 0));
    }

    /** What is HELD or goes by a CLAIM is owed to nobody, whichever society COLLECTS. */
    private static void owedToNobody() {
        Due.by("Terms, CLEARING", "what goes by MANDATE .. is owed (and nothing else)");
        SalePart desk = Desks.ofWork(5, 3);
        for (int land = 0; land < 5; land++) {
            desk.society(land, 0);
            Texts.law(desk, land, "rest 10000; agrees 0;", 0);
            desk.sale(0, 1, 2, 0, land, 100, 0);
            desk.sale(0, 1, 2, 0, land, 10, 0);
            desk.claim(0, 2 * land);
        }
        Due.same("GETS by CLAIMS", 500, desk.gets(0, 0, 0));
        for (int one = 0; one < 5; one++) {
            for (int other = 0; other < 5; other++) {
                Due.same(one + " owes " + other, 0, desk.owes(one, other, 0, 0));
            }
            Due.same("NET of " + one, 0, desk.net(one, 0, 0));
        }
        Due.same("payments", 0, desk.payments(0, 0));
    }

    private static void firstAndLastFact() {
        Due.by("Terms, FACTS", "FACTS, numbered from 0 on, at most 200 (SALES of the first and the last number)");
        SalePart desk = Desks.ofWork(2, 3);
        desk.society(0, 0);
        desk.society(1, 0);
        Texts.law(desk, 0, "rest 10000;", 0);
        desk.sale(0, 1, 2, 0, 0, 100, 0);
        desk.fact(5, 0, 0, 1, 0);
        Due.same("owed by FACT 0", 100, desk.owes(0, 1, 0, 0));
        Due.same("GETS by FACT 0", 100, desk.gets(0, 0, 0));
        for (int i = 2; i < 199; i++) {
            desk.fact(4, 0, 1, 1, 0);
        }
        Due.same("the last FACT", 199, desk.sale(0, 1, 2, 0, 0, 20, 0));
        Due.same("owed by FACTS 0 and 199", 120, desk.owes(0, 1, 0, 0));
        Due.same("GETS by FACTS 0 and 199", 120, desk.gets(0, 0, 0));
        desk.back(false, 0);
        Due.same("owed by FACT 199", 20, desk.owes(0, 1, 0, 0));
        Due.same("NET by FACT 199", 20, desk.net(1, 0, 0));
    }

    private static void withoutOneThatCollects() {
        Due.by("Terms, CLEARING", "without one that COLLECTS nothing is owed.");
        SalePart desk = Desks.ofWork(2, 3);
        Texts.law(desk, 0, "rest 10000;", 0);
        desk.society(1, 100);
        desk.fact(5, 0, 0, 0, 0);
        desk.sale(0, 1, 2, 0, 0, 100, 0);
        Due.same("none COLLECTS", -1, desk.sold(1, 4, 0));
        Due.same("NET", 0, desk.net(0, 0, 0));
        Due.same("payments", 0, desk.payments(0, 0));
        Due.same("GETS", 90, desk.gets(0, 0, 0));
        desk.society(0, 0);
        Due.same("one COLLECTS", 1, desk.sold(1, 4, 0));
        Due.same("NET", 100, desk.net(0, 0, 0));
        Due.same("payments", 1, desk.payments(0, 0));
    }

    private static void netOfAll() {
        Due.by("Terms, CLEARING", "NET of a society: what is owed to it less what it owes.");
        SalePart desk = desk(0);
        owe(desk, 0, 1, 100, 0);
        owe(desk, 1, 0, 30, 0);
        owe(desk, 1, 2, 7, 0);
        owe(desk, 3, 1, 1000, 0);
        owe(desk, 0, 1, 5000, 365);
        int[] due = {-70, 1063, 7, -1000, 0};
        for (int one = 0; one < 5; one++) {
            Due.same("NET of " + one, due[one], desk.net(one, 0, 0));
        }
        Due.same("owes both ways", 100, desk.owes(0, 1, 0, 0));
        Due.same("owes both ways", 30, desk.owes(1, 0, 0, 0));
    }

    private static void withoutSocieties() {
        Due.by("Promise 23", "THE FEWEST payments for a YEAR (none where nothing is owed).");
        SalePart desk = new SalePart();
        Due.same("without societies", 0, desk.payments(0, 0));
        desk.land();
        for (int i = 0; i < 5; i++) {
            desk.society(0, 0);
            Due.same("with " + (i + 1) + " that owe nothing", 0, desk.payments(99, 0));
        }
    }

    private static void fewest() {
        Due.by("Terms, CLEARING", "THE FEWEST payments after which each NET is 0: exactly.");
        fewest(0, 0, 0, 0, 0, 0);
        fewest(1, 1, -1, 0, 0, 0);
        fewest(1, 0, 0, 0, -9, 9);
        fewest(2, 2, -1, -1, 0, 0);
        fewest(2, 1, 1, -2, 0, 0);
        fewest(2, 1, -1, 2, -2, 0);
        fewest(2, 5, -5, 5, -5, 0);
        fewest(3, 1, 2, -4, 1, 0);
        fewest(3, 3, -1, -1, -1, 0);
        fewest(3, 4, -3, -2, 1, 0);
        fewest(3, 1, -1, 3, -2, -1);
        fewest(3, 5, -5, 1, 1, -2);
        fewest(3, 3, -1, -2, 7, -7);
        fewest(4, 10, -1, -2, -3, -4);
        fewest(4, 9, 7, -8, -5, -3);
        fewest(3, 9, 7, -9, -4, -3);
        fewest(4, 1, 2, 4, 8, -15);
        fewest(3, 6, 4, -5, -1, -4);
        fewest(4, 100, -1, -2, -4, -93);
    }

    /** Societies of such NETS, which together are 0. */
    private static void fewest(int due, int... nets) {
        SalePart desk = desk(0);
        int[] left = nets.clone();
        for (int from = 0; from < 5; from++) {
            for (int to = 0; to < 5; to++) {
                int much = Math.min(-left[from], left[to]);
                if (much > 0) {
                    owe(desk, from, to, much, 700);
                    left[from] += much;
                    left[to] -= much;
                }
            }
        }
        for (int one = 0; one < 5; one++) {
            Due.same("NET of " + one + " of " + Arrays.toString(nets), nets[one], desk.net(one, 1, 0));
        }
        Due.same("payments of " + Arrays.toString(nets), due, desk.payments(1, 0));
        Due.same("payments in the YEAR ahead", 0, desk.payments(0, 0));
        Due.same("payments in the YEAR behind", 0, desk.payments(2, 0));
    }

    /** Each NETS from -3 to 3 that are 0 together, against payments that are tried one by one. */
    private static void fewestOfDrawn() {
        Due.by("Terms, CLEARING", "THE FEWEST payments after which each NET is 0: exactly (all small NETS).");
        for (int number = 0; number < 7 * 7 * 7 * 7; number++) {
            int[] nets = new int[5];
            int rest = number;
            for (int one = 0; one < 4; one++) {
                nets[one] = rest % 7 - 3;
                nets[4] -= nets[one];
                rest /= 7;
            }
            fewest(tried(nets.clone(), 0), nets);
        }
    }

    /** The first that isn't 0 pays, or is paid by, each one of another sign: that is enough for the fewest. */
    private static int tried(int[] nets, int first) {
        int one = first;
        while (one < nets.length && nets[one] == 0) {
            one++;
        }
        if (one == nets.length) {
            return 0;
        }
        int best = Integer.MAX_VALUE;
        for (int other = one + 1; other < nets.length; other++) {
            if ((long) nets[one] * nets[other] < 0) {
                nets[other] += nets[one];
                best = Math.min(best, 1 + tried(nets, one + 1));
                nets[other] -= nets[one];
            }
        }
        return best;
    }
}
