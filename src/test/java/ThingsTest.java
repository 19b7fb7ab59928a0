/** Promises 1 to 8 and 29: LANDS, RATES, PERSONS, WORKS, societies, EVENINGS and how many there are. */
public final class ThingsTest {
    private static final int NONE = SalePart.NONE;

    private ThingsTest() {
    }

    public static void main(String[] args) {
        newObject();
        lands();
        rates();
        persons();
        works();
        joins();
        societies();
        evenings();
        counts();
        Due.end();
    }

    private static SalePart desk(int lands, int persons) {
        SalePart desk = new SalePart();
        for (int i = 0; i < lands; i++) {
            desk.land();
        }
        for (int i = 0; i < persons; i++) {
            desk.person(0, 0);
        }
        return desk;
    }

    private static void newObject() {
        SalePart desk = new SalePart();
        for (int what = 0; what <= 8; what++) {
            Due.same("count of a new object", 0, desk.count(what));
        }
        Due.same("fault of a new object", NONE, desk.fault());
        Due.same("again of a new object", 0, desk.again(0, 1, 1, 999));
        Due.same("payments of a new object", 0, desk.payments(99, 0));
        Due.isMissing("rate without a LAND", () -> desk.rate(0, 0, 1000) ? 1 : 0);
        Due.isMissing("person without a LAND", () -> desk.person(0, 0));
        Due.isMissing("work without a PERSON", () -> desk.work(0, 1, 1, 0, 1, 1));
        Due.isMissing("joins without a WORK", () -> desk.joins(0, 0, 1));
        Due.isMissing("society without a LAND", () -> desk.society(0, 0));
        Due.isMissing("with without a WORK", () -> desk.with(0, 0, 0));
        Due.isMissing("back without a FACT", () -> desk.back(false, 0) ? 1 : 0);
        Due.isMissing("back without a LAW", () -> desk.back(true, 0) ? 1 : 0);
        Due.isMissing("more without a PERSON", () -> desk.more(0));
    }

    private static void lands() {
        SalePart desk = new SalePart();
        for (int i = 0; i < 6; i++) {
            Due.same("land", i, desk.land());
        }
        Due.same("a seventh land", NONE, desk.land());
        Due.same("LANDS", 6, desk.count(1));
    }

    private static void rates() {
        SalePart desk = desk(2, 0);
        Due.yes("rate on the first DAY", desk.rate(0, 0, 1));
        Due.yes("rate on the last DAY", desk.rate(1, 36499, 99999));
        Due.no("rate ahead of all DAYS", desk.rate(0, -1, 1000));
        Due.no("rate behind all DAYS", desk.rate(0, 36500, 1000));
        Due.no("rate of no parts", desk.rate(0, 0, 0));
        Due.no("rate of too many parts", desk.rate(0, 0, 100000));
        Due.isMissing("rate of no LAND", () -> desk.rate(2, -1, 0) ? 1 : 0);
        Due.isMissing("rate of LAND -1", () -> desk.rate(-1, 0, 1000) ? 1 : 0);
        for (int i = 2; i < 60; i++) {
            Due.yes("rate " + i, desk.rate(0, i, 1000));
        }
        Due.no("a 61st rate", desk.rate(0, 0, 1000));
        Due.isMissing("a 61st rate of no LAND", () -> desk.rate(2, 0, 1000) ? 1 : 0);
        ratesOfSales();
    }

    private static void ratesOfSales() {
        SalePart desk = desk(2, 2);
        desk.work(0, 1, 1, 0, 1, 1);
        desk.sale(0, 0, 1, 100, 0, 1999, 0);
        Due.same("PRICE without a RATE", 1999, desk.sold(0, 0, 0));
        desk.rate(0, 100, 3000);
        Due.same("PRICE by the first RATE", 5997, desk.sold(0, 0, 0));
        desk.rate(0, 100, 1000);
        desk.rate(1, 0, 5000);
        Due.same("PRICE by another LAND's RATE", 1999, desk.sold(0, 0, 0));
        desk.rate(0, 101, 2000);
        Due.same("PRICE ahead of the RATE", 1999, desk.sold(0, 0, 0));
        desk.rate(0, 100, 1500);
        Due.same("PRICE, cut down", 2998, desk.sold(0, 0, 0));
        desk.rate(0, 50, 1600);
        Due.same("PRICE by the latest beginning", 2998, desk.sold(0, 0, 0));
        desk.rate(0, 100, 500);
        Due.same("PRICE by the RATE told last", 999, desk.sold(0, 0, 0));
        desk.evenings(1);
        desk.rate(0, 100, 700);
        Due.same("PRICE on an EVENING ahead of the RATE's", 1399, desk.sold(0, 0, 0));
        desk.sale(0, 1, 0, 200, 1, 20000000, 0);
        desk.rate(1, 0, 99999);
        Due.same("the highest PRICE", 1999980000, desk.sold(1, 0, 1));
    }

    private static void persons() {
        SalePart desk = desk(1, 0);
        Due.same("private", 0, desk.person(0, 0));
        Due.same("dealer", 1, desk.person(0, 1));
        Due.same("museum", 2, desk.person(0, 2));
        Due.same("sort 3", NONE, desk.person(0, 3));
        Due.same("sort -1", NONE, desk.person(0, -1));
        Due.isMissing("person of no LAND", () -> desk.person(1, 3));
        for (int i = 3; i < 30; i++) {
            Due.same("person", i, desk.person(0, 0));
        }
        Due.same("a 31st person", NONE, desk.person(0, 0));
        Due.same("PERSONS", 30, desk.count(2));
    }

    private static void works() {
        SalePart desk = desk(1, 1);
        Due.same("least work", 0, desk.work(0, 1, 1, 0, 1, 1));
        Due.same("most work", 1, desk.work(0, 9, 99, 65535, 999, 999));
        int[] least = {1, 1, 0, 1, 1};
        int[] most = {9, 99, 65535, 999, 999};
        for (int i = 0; i < 5; i++) {
            int[] low = most.clone();
            low[i] = least[i] - 1;
            Due.same("work, number " + i + " too low", NONE, desk.work(0, low[0], low[1], low[2], low[3], low[4]));
            int[] high = least.clone();
            high[i] = most[i] + 1;
            Due.same("work, number " + i + " too high", NONE,
                    desk.work(0, high[0], high[1], high[2], high[3], high[4]));
        }
        Due.isMissing("work of nobody", () -> desk.work(1, 0, 0, -1, 0, 0));
        Due.isMissing("work of PERSON -1", () -> desk.work(-1, 1, 1, 0, 1, 1));
        for (int i = 2; i < 30; i++) {
            Due.same("work", i, desk.work(0, 1, 1, 0, 1, 1));
        }
        Due.same("a 31st work", NONE, desk.work(0, 1, 1, 0, 1, 1));
        Due.same("WORKS", 30, desk.count(3));
    }

    private static void joins() {
        SalePart desk = desk(1, 5);
        desk.work(0, 1, 1, 0, 1, 1);
        desk.work(0, 1, 1, 0, 1, 1);
        Due.isMissing("joins no WORK", () -> desk.joins(2, 1, 1));
        Due.isMissing("nobody joins", () -> desk.joins(0, 5, 1));
        Due.same("one that is there", NONE, desk.joins(0, 0, 1));
        Due.same("weight 0", NONE, desk.joins(0, 1, 0));
        Due.same("weight 10", NONE, desk.joins(0, 1, 10));
        Due.same("the second", 2, desk.joins(0, 1, 9));
        Due.same("the second again", NONE, desk.joins(0, 1, 1));
        Due.same("the third", 3, desk.joins(0, 2, 1));
        Due.same("a fourth", NONE, desk.joins(0, 3, 1));
        desk.fact(3, 1, 3, 4, 0);
        desk.fact(4, 1, 3, 4, 0);
        Due.same("joins behind GIFT and SEEN", 2, desk.joins(1, 1, 1));
        desk.sale(1, 0, 1, 0, 0, 1, 0);
        Due.same("joins behind a SALE", NONE, desk.joins(1, 2, 1));
        desk.back(false, 2);
        Due.same("joins behind a SALE TAKEN BACK", NONE, desk.joins(1, 2, 1));
        Due.isMissing("nobody joins behind a SALE", () -> desk.joins(1, -1, 1));
        SalePart first = desk(1, 3);
        first.work(0, 1, 1, 0, 1, 1);
        first.sale(0, 0, 1, 0, 0, 1, 0);
        Due.same("joins behind the first FACT", NONE, first.joins(0, 1, 1));
    }

    private static void societies() {
        SalePart desk = desk(1, 0);
        Due.same("fee 0", 0, desk.society(0, 0));
        Due.same("fee 300", 1, desk.society(0, 300));
        Due.same("fee -1", NONE, desk.society(0, -1));
        Due.same("fee 301", NONE, desk.society(0, 301));
        Due.isMissing("society of no LAND", () -> desk.society(1, 301));
        for (int i = 2; i < 5; i++) {
            Due.same("society", i, desk.society(0, 1));
        }
        Due.same("a sixth society", NONE, desk.society(0, 1));
        Due.same("societies", 5, desk.count(4));
    }

    private static void evenings() {
        SalePart desk = new SalePart();
        Due.same("none goes by", 0, desk.evenings(0));
        Due.same("two go by", 2, desk.evenings(2));
        Due.isRefused("EVENINGS back", () -> desk.evenings(-1));
        Due.isRefused("behind the last", () -> desk.evenings(998));
        Due.isRefused("far behind the last", () -> desk.evenings(Integer.MAX_VALUE));
        Due.same("TONIGHT", 2, desk.count(0));
        Due.same("to the last", 999, desk.evenings(997));
        Due.same("none more", 999, desk.evenings(0));
        Due.isRefused("one more", () -> desk.evenings(1));
    }

    private static void counts() {
        SalePart desk = desk(3, 4);
        desk.work(0, 1, 1, 0, 1, 1);
        desk.work(0, 1, 1, 0, 1, 1);
        desk.society(0, 0);
        desk.evenings(7);
        desk.sale(0, 0, 1, 0, 0, 1, 0);
        desk.death(0, 0, 0);
        desk.heir(0, 1, 1, 1);
        desk.fact(4, 0, 0, 0, 0);
        desk.fact(5, 0, 0, 0, 0);
        desk.back(false, 4);
        desk.claim(0, 0);
        desk.law(0, 0, 0);
        desk.law(0, 0, 0);
        desk.back(true, 0);
        desk.feed(0, 0, 0, 0, 0);
        int[] due = {7, 3, 4, 2, 1, 5, 2, 1, 20};
        for (int what = 0; what < due.length; what++) {
            Due.same("count(" + what + ")", due[what], desk.count(what));
        }
        Due.isMissing("count(9)", () -> desk.count(9));
        Due.isMissing("count(-1)", () -> desk.count(-1));
    }
}
