/** Promises 20 to 23: what PERSONS GET in a YEAR, and what the societies clear among them. */
public final class ClearingTest {
    private ClearingTest() {
    }

    public static void main(String[] args) {
        exceptions();
        gets();
        owes();
        withoutCollector();
        payments(1, new int[][] {{0, 1, 50}});
        payments(1, new int[][] {{1, 2, 50}});
        payments(2, new int[][] {{1, 2, 50}, {3, 4, 60}});
        payments(0, new int[][] {{0, 1, 50}, {1, 0, 50}});
        payments(0, new int[][] {{0, 1, 50}, {1, 2, 50}, {2, 0, 50}});
        payments(1, new int[][] {{0, 1, 50}, {1, 2, 50}});
        payments(2, new int[][] {{0, 1, 50}, {0, 2, 50}});
        payments(2, new int[][] {{0, 1, 50}, {2, 3, 70}});
        payments(3, new int[][] {{0, 1, 50}, {2, 3, 70}, {0, 3, 1}});
        payments(3, new int[][] {{0, 1, 30}, {0, 2, 20}, {3, 4, 50}});
        payments(3, new int[][] {{0, 1, 30}, {2, 1, 20}, {3, 1, 10}});
        payments(4, new int[][] {{0, 1, 1}, {0, 2, 2}, {0, 3, 4}, {0, 4, 8}});
        payments(3, new int[][] {{0, 1, 30}, {2, 1, 20}, {2, 3, 10}, {4, 3, 20}});
        payments(3, new int[][] {{0, 3, 30}, {1, 4, 10}, {2, 4, 20}, {0, 4, 10}, {1, 3, 10}});
        Due.end();
    }

    /** Five LANDS; in each a society and a PERSON of it, then a seller and a buyer; WORK i is of PERSON i. */
    private static SalePart desk() {
        SalePart desk = new SalePart();
        for (int i = 0; i < 5; i++) {
            desk.land();
        }
        for (int i = 0; i < 5; i++) {
            desk.society(i, 100);
            desk.person(i, 0);
            desk.work(i, 1, 1, 0, 1, 1);
            Texts.law(desk, i, "rest 10000; agrees 0; agrees 1; agrees 2; agrees 3; agrees 4;", 0);
            desk.fact(5, 0, i, i, 0);
        }
        desk.person(0, 0);
        desk.person(0, 0);
        return desk;
    }

    /** A SALE by which the society from owes the society to so much. */
    private static int owe(SalePart desk, int from, int to, int much, int day) {
        return desk.sale(to, 5, 6, day, from, much, 0);
    }

    private static void payments(int due, int[][] owed) {
        SalePart desk = desk();
        long[] nets = new long[5];
        for (int[] one : owed) {
            owe(desk, one[0], one[1], one[2], 800);
            nets[one[0]] -= one[2];
            nets[one[1]] += one[2];
        }
        for (int i = 0; i < 5; i++) {
            Due.same("NET of " + i + " in " + java.util.Arrays.deepToString(owed), nets[i], desk.net(i, 2, 0));
        }
        Due.same("payments of " + java.util.Arrays.deepToString(owed), due, desk.payments(2, 0));
        Due.same("payments of another YEAR", 0, desk.payments(1, 0));
    }

    private static void exceptions() {
        SalePart desk = desk();
        for (int year : new int[] {-1, 100, Integer.MAX_VALUE}) {
            Due.isMissing("gets in YEAR " + year, () -> desk.gets(0, year, 1));
            Due.isMissing("owes in YEAR " + year, () -> desk.owes(0, 1, year, 1));
            Due.isMissing("net in YEAR " + year, () -> desk.net(0, year, 1));
            Due.isMissing("payments in YEAR " + year, () -> desk.payments(year, 1));
        }
        for (int k : new int[] {-1, 1}) {
            Due.isRefused("gets on EVENING " + k, () -> desk.gets(0, 99, k));
            Due.isRefused("owes on EVENING " + k, () -> desk.owes(0, 1, 99, k));
            Due.isRefused("owes to itself on EVENING " + k, () -> desk.owes(1, 1, 99, k));
            Due.isRefused("net on EVENING " + k, () -> desk.net(0, 99, k));
            Due.isRefused("payments on EVENING " + k, () -> desk.payments(0, k));
        }
        Due.isMissing("gets of nobody", () -> desk.gets(7, 0, 0));
        Due.isMissing("gets of PERSON -1", () -> desk.gets(-1, 0, 1));
        Due.isMissing("owes of no society", () -> desk.owes(5, 0, 0, 1));
        Due.isMissing("owes to no society", () -> desk.owes(0, -1, 0, 0));
        Due.isMissing("net of no society", () -> desk.net(5, 0, 1));
    }

    private static void gets() {
        SalePart desk = desk();
        owe(desk, 0, 1, 1000, 364);
        owe(desk, 0, 1, 100, 365);
        owe(desk, 2, 1, 10, 729);
        owe(desk, 1, 1, 20, 500);
        owe(desk, 0, 2, 30, 500);
        owe(desk, 0, 1, 2000, 730);
        Due.same("gets of YEAR 0", 900, desk.gets(1, 0, 0));
        Due.same("gets of YEAR 1", 90 + 9 + 18, desk.gets(1, 1, 0));
        Due.same("gets of YEAR 2", 1800, desk.gets(1, 2, 0));
        Due.same("gets of YEAR 99", 0, desk.gets(1, 99, 0));
        Due.same("gets of another one", 27, desk.gets(2, 1, 0));
        desk.sale(1, 5, 6, 36499, 0, 70, 0);
        Due.same("gets of the last YEAR", 63, desk.gets(1, 99, 0));
        desk.evenings(1);
        desk.back(false, 7);
        owe(desk, 3, 1, 40, 400);
        Due.same("gets behind what was TAKEN BACK and told", 36 + 117 - 9, desk.gets(1, 1, 1));
        Due.same("gets as known ahead", 117, desk.gets(1, 1, 0));
        desk.back(false, 1);
        Due.same("gets without a MANDATE", 0, desk.gets(1, 1, 1));
        desk.claim(1, 6);
        Due.same("gets by a CLAIM", 100, desk.gets(1, 1, 1));
    }

    private static void owes() {
        SalePart desk = desk();
        owe(desk, 0, 1, 1000, 365);
        owe(desk, 0, 1, 7, 729);
        owe(desk, 0, 1, 5, 730);
        owe(desk, 1, 0, 100, 400);
        owe(desk, 1, 1, 60, 400);
        Due.same("owes, whole", 1007, desk.owes(0, 1, 1, 0));
        Due.same("owes the other way", 100, desk.owes(1, 0, 1, 0));
        Due.same("owes itself", 0, desk.owes(1, 1, 1, 0));
        Due.same("owes another one", 0, desk.owes(0, 2, 1, 0));
        Due.same("owes in another YEAR", 5, desk.owes(0, 1, 2, 0));
        Due.same("NET", -907, desk.net(0, 1, 0));
        Due.same("NET of the other", 907, desk.net(1, 1, 0));
        Due.same("NET of a third", 0, desk.net(2, 1, 0));
        desk.evenings(1);
        desk.back(false, 1);
        Due.same("owes nothing without a MANDATE", 0, desk.owes(0, 1, 1, 1));
        desk.claim(1, 5);
        Due.same("owes nothing by a CLAIM", 0, desk.owes(0, 1, 1, 1));
        Due.same("owes as known ahead", 1007, desk.owes(0, 1, 1, 0));
        Due.same("payments", 1, desk.payments(1, 1));
        desk.death(0, 1, 1);
        desk.heir(0, 2, 1, 2);
        Due.same("owes for an HEIR", 50, desk.owes(1, 2, 1, 1));
        Due.same("owes nothing for who is DEAD", 0, desk.owes(1, 0, 1, 1));
        Due.same("payments behind that", 1, desk.payments(1, 1));
    }

    private static void withoutCollector() {
        SalePart desk = new SalePart();
        desk.land();
        desk.land();
        desk.society(1, 0);
        for (int i = 0; i < 3; i++) {
            desk.person(0, 0);
        }
        desk.work(0, 1, 1, 0, 1, 1);
        Texts.law(desk, 0, "rest 10000;", 0);
        desk.sale(0, 1, 2, 0, 0, 10, 0);
        desk.fact(5, 0, 0, 0, 0);
        Due.same("it GETS by MANDATE", 10, desk.gets(0, 0, 0));
        Due.same("nothing is owed", 0, desk.net(0, 0, 0));
        Due.same("no payments", 0, desk.payments(0, 0));
        desk.society(0, 0);
        Due.same("it is owed by the one that COLLECTS", 10, desk.owes(1, 0, 0, 0));
        Due.same("a payment", 1, desk.payments(0, 0));
    }
}
