/** What a 'due' comes to (Terms, 2 and 3), where the document names a boundary; each method is of one sentence. */
public final class ExprEdgeTest {
    private static final int LEAST = Integer.MIN_VALUE;
    private static final int MOST = Integer.MAX_VALUE;
    private static final int[] INTS = {LEAST, LEAST + 1, -99999999, -65536, -46341, -7, -2, -1, 0, 1, 2, 3, 7, 46340, 46341,
        65535, 65536, 99999999, MOST - 1, MOST};

    private ExprEdgeTest() {
    }

    public static void main(String[] args) {
        intsThatWrap();
        cutTowardsZero();
        byZero();
        testsAreOneOrZero();
        whatIsntZeroHolds();
        fromTheLeft();
        binding();
        price();
        sorts();
        how();
        artist();
        held();
        from();
        fromTheLast();
        ofThatWorkAlone();
        again();
        joint();
        edition();
        dueIsntZero();
        withoutDue();
        lastDue();
        Due.end();
    }

    /** A LAND; PERSONS 0 to 8, of each sort three: 0, 1, 2 private, 3, 4, 5 dealers, 6, 7, 8 museums; a WORK of PERSON 0. */
    private static SalePart desk() {
        SalePart desk = new SalePart();
        desk.land();
        for (int i = 0; i < 9; i++) {
            desk.person(0, i / 3);
        }
        desk.work(0, 1, 5, 0, 1, 1);
        return desk;
    }

    /** An int as the texts can tell it. */
    private static String told(int number) {
        if (number == LEAST) {
            return "(0-21474*100000-83647-1)";
        }
        if (number < 0) {
            return "(0-" + told(-number) + ")";
        }
        return number <= 99999999 ? Integer.toString(number) : "(" + number / 100000 + "*100000+" + number % 100000 + ")";
    }

    private static boolean holds(SalePart desk, int sale, String expr) {
        int ahead = desk.count(6);
        Due.same("law of due " + expr, ahead, Texts.law(desk, 0, "due " + expr + ";", 0));
        return desk.sold(sale, 1, desk.count(0)) == 1;
    }

    private static void isWorth(int due, String expr) {
        SalePart desk = desk();
        desk.sale(0, 3, 4, 1000, 0, 1, 0);
        Due.yes(expr + " is " + due, holds(desk, 0, "(" + expr + ")=" + told(due)));
        Due.no(expr + " is 1 more than " + due, holds(desk, 0, "(" + expr + ")=" + told(due + 1)));
        Due.same(expr + " holds", due == 0 ? 0 : 1, holds(desk, 0, expr) ? 1 : 0);
    }

    private static void intsThatWrap() {
        Due.by("Terms, LAW", "ints that wrap");
        for (int a : INTS) {
            for (int b : INTS) {
                isWorth(a + b, told(a) + "+" + told(b));
                isWorth(a - b, told(a) + "-" + told(b));
                isWorth(a * b, told(a) + "*" + told(b));
            }
        }
        isWorth(0, "65536*65536");
        isWorth(LEAST, "65536*32768");
        isWorth(-2147479015, "46341*46341");
        isWorth(1410065408, "99999999*100+100");
    }

    private static void cutTowardsZero() {
        Due.by("Terms, LAW", "/ cut towards 0");
        for (int a : INTS) {
            for (int b : INTS) {
                if (b != 0) {
                    isWorth(a / b, told(a) + "/" + told(b));
                }
            }
        }
        isWorth(3, "7/2");
        isWorth(-3, "(0-7)/2");
        isWorth(-3, "7/(0-2)");
        isWorth(3, "(0-7)/(0-2)");
        isWorth(0, "1/2");
        isWorth(0, "(0-1)/2");
        isWorth(LEAST, told(LEAST) + "/(0-1)");
    }

    private static void byZero() {
        Due.by("Terms, LAW", "by 0 gives 0");
        for (int a : INTS) {
            isWorth(0, told(a) + "/0");
            isWorth(0, told(a) + "/(65536*65536)");
        }
        isWorth(7, "7+5/0");
        isWorth(0, "5/0/0");
        isWorth(1, "5/0=0");
        isWorth(1, "not 5/0");
    }

    private static void testsAreOneOrZero() {
        Due.by("Terms, LAW", "tests, not, and, or are 1 or 0");
        for (int a : INTS) {
            for (int b : INTS) {
                isWorth(a < b ? 1 : 0, told(a) + "<" + told(b));
                isWorth(a == b ? 1 : 0, told(a) + "=" + told(b));
            }
        }
        isWorth(1, "7<8");
        isWorth(0, "8<8");
        isWorth(0, "9<8");
        isWorth(1, "8=8");
        isWorth(0, "7=8");
        isWorth(0, "9=8");
    }

    private static void whatIsntZeroHolds() {
        Due.by("Terms, LAW", "tests, not, and, or are 1 or 0 (what isn't 0 holds)");
        for (int a : INTS) {
            isWorth(a == 0 ? 1 : 0, "not " + told(a));
            isWorth(a == 0 ? 0 : 1, "not not " + told(a));
            isWorth(a == 0 ? 1 : 0, "not not not not not " + told(a));
            isWorth(a == 0 ? 0 : 1, "not not not not not not " + told(a));
            for (int b : new int[] {LEAST, -1, 0, 1, 2, MOST}) {
                isWorth(a != 0 && b != 0 ? 1 : 0, told(a) + " and " + told(b));
                isWorth(a != 0 || b != 0 ? 1 : 0, told(a) + " or " + told(b));
            }
        }
        isWorth(1, "2 and 4");
        isWorth(1, "2 or 4");
        isWorth(1, "65536 and 32768");
    }

    private static void fromTheLeft() {
        Due.by("Terms, LAW", "From the left");
        isWorth(5, "10-3-2");
        isWorth(9, "10-3+2");
        isWorth(7, "100/7/2");
        isWorth(6, "7/2*2");
        isWorth(7, "7*2/2");
        isWorth(1, "2*3/4");
        isWorth(0, "2/3*4");
        isWorth(3, "9-(8-2)");
        isWorth(8, "16/(4/2)");
        isWorth(1, "0 and 0 or 1");
        isWorth(1, "1 or 1 and 0");
        isWorth(-8, "1-2-3-4");
        isWorth(2, "64/2/2/2/2/2");
    }

    private static void binding() {
        Due.by("Terms, LAW", "EXPR: AND ('or' AND)*. AND: NOT ('and' NOT)*. NOT: 'not' NOT | SUM [('<' | '=') SUM]. ..");
        isWorth(14, "2+3*4");
        isWorth(20, "(2+3)*4");
        isWorth(-10, "2-3*4");
        isWorth(0, "1-3/3");
        isWorth(1, "1+1<3");
        isWorth(0, "3<1+1");
        isWorth(1, "2*3=3+3");
        isWorth(1, "not 1=2");
        isWorth(1, "(not 1)=0");
        isWorth(1, "not 2<1");
        isWorth(0, "not 1 and 0");
        isWorth(0, "not (0 or 1)");
        isWorth(1, "not 0 or 1");
        isWorth(1, "1 or 0 and 0");
        isWorth(0, "(1 or 0) and 0");
        isWorth(2, "(1<2)+(2<3)");
        isWorth(1, "((1<2)=(2<3))");
        isWorth(3, "(1 or 5)+(7 and 9)+(not 0)");
    }

    private static void price() {
        Due.by("Terms, VALUES", "price: PRICE");
        int[][] prices = {{1, 1000, 1}, {1, 999, 0}, {20000000, 1000, 20000000}, {20000000, 99999, 1999980000},
            {1, 99999, 99}, {20000000, 1, 20000}};
        for (int[] one : prices) {
            SalePart desk = desk();
            desk.rate(0, 0, one[1]);
            desk.sale(0, 3, 4, 1000, 0, one[0], 0);
            isValue(desk, 0, "price", one[2]);
        }
    }

    /** A VALUE is so much: not one less, not one more. */
    private static void isValue(SalePart desk, int sale, String value, int due) {
        for (int off = -1; off <= 1; off++) {
            Due.same("whether '" + value + "' is " + (due + off), off == 0 ? 1 : 0,
                    holds(desk, sale, value + "=" + told(due + off)) ? 1 : 0);
        }
    }

    private static void sorts() {
        Due.by("Terms, VALUES", "seller, buyer: their sorts");
        for (int seller = 1; seller < 9; seller += 3) {
            for (int buyer = 2; buyer < 9; buyer += 3) {
                SalePart desk = desk();
                desk.sale(0, seller, buyer, 1000, 0, 1, 0);
                isValue(desk, 0, "seller", seller / 3);
                isValue(desk, 0, "buyer", buyer / 3);
            }
        }
    }

    private static void how() {
        Due.by("Terms, VALUES", "how (0 to 3)");
        for (int how = 0; how <= 3; how++) {
            SalePart desk = desk();
            desk.sale(0, 3, 4, 1000, 0, 1, how);
            isValue(desk, 0, "how", how);
        }
    }

    private static void artist() {
        Due.by("Terms, VALUES", "artist: 1, if the seller is one of the ARTISTS");
        for (int seller = 0; seller <= 4; seller++) {
            SalePart desk = desk();
            desk.joins(0, 1, 9);
            desk.joins(0, 2, 1);
            desk.sale(0, seller, 5, 1000, 0, 1, 0);
            isValue(desk, 0, "artist", seller <= 2 ? 1 : 0);
            desk.sale(0, 5, seller, 1000, 0, 1, 0);
            isValue(desk, 1, "artist", 0);
        }
    }

    private static void held() {
        Due.by("Terms, VALUES", "held: DAYS since the seller got it (on a DAY ahead of this one's, 99999 without)");
        int[][] days = {{0, 36499, 36499}, {999, 1000, 1}, {998, 1000, 2}, {1000, 1000, 99999}, {1001, 1000, 99999},
            {0, 1, 1}, {0, 0, 99999}, {36498, 36499, 1}, {36499, 36499, 99999}};
        for (int[] one : days) {
            for (int kind = 2; kind <= 4; kind++) {
                SalePart desk = desk();
                desk.sale(0, 3, 4, one[1], 0, 1, 0);
                tellGot(desk, kind, one[0]);
                int due = kind == 4 ? 99999 : one[2];
                Due.same("held, got by KIND " + kind + " on " + one[0], due, desk.sold(0, 6, 0));
                isValue(desk, 0, "held", due);
            }
        }
    }

    /** PERSON 3 gets WORK 0 from PERSON 0, its ARTIST; is SEEN with it. */
    private static void tellGot(SalePart desk, int kind, int day) {
        if (kind == 2) {
            desk.sale(0, 0, 3, day, 0, 1, 0);
        } else {
            desk.fact(kind, 0, kind == 3 ? 0 : 3, 3, day);
        }
    }

    private static void from() {
        Due.by("Terms, VALUES", "from: 1, if that came from one of the ARTISTS");
        int[][] days = {{999, 1}, {1000, 0}, {1001, 0}, {0, 1}};
        for (int[] one : days) {
            for (int kind = 2; kind <= 4; kind++) {
                SalePart desk = desk();
                desk.sale(0, 3, 4, 1000, 0, 1, 0);
                tellGot(desk, kind, one[0]);
                isValue(desk, 0, "from", kind == 4 ? 0 : one[1]);
            }
        }
        for (int giver = 0; giver <= 5; giver++) {
            SalePart desk = desk();
            desk.joins(0, 1, 9);
            desk.joins(0, 2, 1);
            desk.fact(3, 0, giver, 6, 10);
            desk.sale(0, 6, 7, 11, 0, 1, 0);
            isValue(desk, 1, "from", giver <= 2 ? 1 : 0);
        }
    }

    private static void fromTheLast() {
        Due.by("Terms, VALUES", "held, from: (the last one known on a DAY ahead of this one's)");
        SalePart desk = desk();
        int sale = desk.sale(0, 3, 4, 1000, 0, 1, 0);
        int[][] gifts = {{0, 500, 1, 500}, {5, 499, 1, 500}, {5, 500, 0, 500}, {0, 500, 1, 500}, {6, 501, 0, 499},
            {0, 500, 0, 499}, {0, 999, 1, 1}, {6, 998, 1, 1}, {5, 1000, 1, 1}};
        for (int[] gift : gifts) {
            desk.fact(3, 0, gift[0], 3, gift[1]);
            Due.same("held, given by " + gift[0] + " on " + gift[1], gift[3], desk.sold(sale, 6, 0));
            Due.same("from, given by " + gift[0] + " on " + gift[1], gift[2], holds(desk, sale, "from") ? 1 : 0);
        }
        desk.back(false, 7);
        Due.same("held without the last", 2, desk.sold(sale, 6, 0));
        desk.fact(3, 0, 3, 5, 999);
        Due.same("held, though given away", 2, desk.sold(sale, 6, 0));
    }

    /** What tells nothing of a WORK's seller: FACTS of other KINDS, other WORKS, other PERSONS. */
    private static void ofThatWorkAlone() {
        Due.by("Terms, VALUES", "held: .. got it by a SALE or GIFT; again: how many SALES of that WORK");
        SalePart desk = desk();
        desk.work(0, 1, 1, 0, 1, 1);
        for (int i = 0; i < 4; i++) {
            desk.society(0, 0);
        }
        int sale = desk.sale(0, 3, 4, 1000, 0, 1, 0);
        desk.death(3, 900, 900);
        desk.heir(0, 3, 1, 1);
        desk.fact(5, 0, 0, 3, 900);
        desk.fact(4, 0, 3, 3, 900);
        desk.fact(3, 1, 0, 3, 900);
        desk.sale(1, 0, 3, 900, 0, 1, 0);
        Due.same("held by none of them", 99999, desk.sold(sale, 6, 0));
        Due.same("again by none of them", 0, desk.sold(sale, 7, 0));
        desk.fact(3, 0, 3, 5, 900);
        Due.same("held by a GIFT of the seller", 99999, desk.sold(sale, 6, 0));
        desk.fact(3, 0, 5, 6, 900);
        Due.same("held by a GIFT among others", 99999, desk.sold(sale, 6, 0));
        desk.sale(0, 0, 7, 900, 0, 1, 0);
        Due.same("held by a SALE among others", 99999, desk.sold(sale, 6, 0));
        Due.same("again by a SALE among others", 1, desk.sold(sale, 7, 0));
        desk.fact(3, 0, 7, 3, 901);
        Due.same("held by a GIFT to the seller", 99, desk.sold(sale, 6, 0));
        Due.same("again by that", 1, desk.sold(sale, 7, 0));
        isValue(desk, sale, "from", 0);
    }

    private static void again() {
        Due.by("Terms, VALUES", "again: how many SALES of that WORK are known on the 365 DAYS ahead of its DAY");
        int[][] days = {{634, 0}, {635, 1}, {636, 1}, {999, 1}, {1000, 0}, {1001, 0}};
        for (int[] one : days) {
            SalePart desk = desk();
            desk.sale(0, 3, 4, 1000, 0, 1, 0);
            desk.sale(0, 5, 6, one[0], 0, 1, 0);
            Due.same("again, with a SALE on " + one[0], one[1], desk.sold(0, 7, 0));
            isValue(desk, 0, "again", one[1]);
        }
        for (int day : new int[] {0, 1, 364, 365, 366}) {
            SalePart desk = desk();
            desk.sale(0, 3, 4, day, 0, 1, 0);
            desk.sale(0, 5, 6, 0, 0, 1, 0);
            isValue(desk, 0, "again", day == 0 || day == 366 ? 0 : 1);
        }
        SalePart many = desk();
        for (int i = 0; i < 199; i++) {
            many.sale(0, 5, 6, 700 + i, 0, 1, 0);
        }
        many.sale(0, 3, 4, 1000, 0, 1, 0);
        Due.same("again, with 199 SALES", 199, many.sold(199, 7, 0));
        isValue(many, 199, "again", 199);
    }

    private static void joint() {
        Due.by("Terms, VALUES", "joint: how many ARTISTS");
        SalePart desk = desk();
        for (int work = 0; work <= 2; work++) {
            for (int i = 1; i <= work; i++) {
                desk.joins(work, i, 1);
            }
            desk.sale(work, 3, 4, 1000, 0, 1, 0);
            isValue(desk, work, "joint", work + 1);
            desk.work(0, 1, 1, 0, 1, 1);
        }
    }

    private static void edition() {
        Due.by("Terms, VALUES", "edition (1 to 99)");
        SalePart desk = desk();
        int work = 0;
        for (int edition : new int[] {1, 2, 99}) {
            work++;
            desk.work(0, 1, edition, 0, 1, 1);
            int sale = desk.sale(work, 3, 4, 1000, 0, 1, 0);
            isValue(desk, sale, "edition", edition);
        }
    }

    private static void dueIsntZero() {
        Due.by("Terms, SALE", "it COUNTS, if the last 'due' isn't 0");
        for (int number : INTS) {
            SalePart desk = desk();
            desk.sale(0, 3, 4, 1000, 0, 1, 0);
            desk.sale(0, 0, 4, 1000, 0, 1, 0);
            Due.same("due " + number, number == 0 ? 0 : 1, holds(desk, 0, told(number)) ? 1 : 0);
            Due.same("due " + number + ", the ARTIST sells", number == 0 ? 0 : 1, desk.sold(1, 1, 0));
        }
    }

    private static void withoutDue() {
        Due.by("Terms, SALE", "(without: the seller is none of the ARTISTS)");
        SalePart desk = desk();
        desk.joins(0, 1, 1);
        desk.joins(0, 2, 1);
        Texts.law(desk, 0, "rest 10000;", 0);
        for (int seller = 0; seller <= 8; seller++) {
            desk.sale(0, seller, (seller + 1) % 9, 1000, 0, 300, 0);
            Due.same("seller " + seller, seller <= 2 ? 0 : 1, desk.sold(seller, 1, 0));
            Due.same("PART, seller " + seller, seller <= 2 ? 0 : 300, desk.sold(seller, 2, 0));
        }
    }

    private static void lastDue() {
        Due.by("Terms, SALE", "Of others the last in the text counts ('due')");
        for (String[] one : new String[][] {{"due 0; due 1;", "1"}, {"due 1; due 0;", "0"}, {"due 1; rest 1; due 0;", "0"},
            {"due 0; due 0; due 5;", "1"}, {"due 1+2*3; due 0;", "0"}, {"due 0; due 1+2*3-7;", "0"},
            {"due 0; rest 1; least 0; due 8 or 0;", "1"},
            {"due not 0; due 0;", "0"}, {"due not 1; due 1;", "1"}, {"due 5-5; due 5;", "1"}, {"due 1 or 1; due 0;", "0"}, {"due 0;".repeat(15) + "due 1;", "1"}}) {
            SalePart desk = desk();
            desk.sale(0, 3, 4, 1000, 0, 1, 0);
            Texts.law(desk, 0, one[0], 0);
            Due.same("COUNTS by " + one[0], Integer.parseInt(one[1]), desk.sold(0, 1, 0));
        }
    }
}
