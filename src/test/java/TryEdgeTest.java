/** Promises 27 and 28 where the document names a boundary; each method is of one sentence. */
public final class TryEdgeTest {
    private TryEdgeTest() {
    }

    public static void main(String[] args) {
        noLandOrBytes();
        tapeEmpty();
        dayNotAsTold();
        faults();
        toldLastOfAll();
        fromADayOn();
        otherLands();
        knownTonight();
        besideTwelveLaws();
        leavesAllElse();
        asAnArtist();
        eachCutDown();
        forByTheText();
        countsByTheText();
        moreOfNobody();
        moreWithoutOne();
        moreByTheLatest();
        moreOfLaterPersons();
        moreThanAnInt();
        Due.end();
    }

    /** Two LANDS, five PERSONS of LAND 0, one of LAND 1, a WORK of PERSON 0. */
    private static SalePart desk() {
        SalePart desk = Desks.ofWork(2, 5);
        desk.person(1, 0);
        return desk;
    }

    private static void noLandOrBytes() {
        Due.by("Promise 27", "Exceptions as of law().");
        SalePart desk = desk();
        for (int feeds = 0; feeds <= 1; feeds++) {
            for (int from : new int[] {-1, 0, 36500}) {
                for (int land : Whole.far(-1, 2)) {
                    for (int n : Whole.far(-1, 0, 21)) {
                        Due.isMissing("LAND " + land + ", n " + n, () -> desk.attempt(land, n, from));
                    }
                }
                for (int n : Whole.far(-1, 20 * feeds + 1)) {
                    Due.isRefused("n " + n + " of " + feeds + " feeds", () -> desk.attempt(0, n, from));
                }
                Due.same("bytes", 20 * feeds, desk.count(8));
            }
            Due.same("n of all", 0, desk.attempt(1, 20 * feeds, 0));
            Texts.feed(desk, " ");
        }
    }

    private static void tapeEmpty() {
        Due.by("Promise 27", "the tape's first n bytes (it is empty then, with 9, too)");
        SalePart desk = desk();
        desk.sale(0, 1, 2, 0, 0, 100, 0);
        String[] texts = {"rest 100;", "rest", "due frog;", "rest 10001;", "agrees 2;"};
        int[] due = {0, 1, 3, 2, 4};
        for (int i = 0; i < texts.length; i++) {
            for (int from : new int[] {0, -1, 36500}) {
                int n = Texts.feed(desk, texts[i]);
                Texts.feed(desk, "rest 10000;");
                Due.same("attempt of " + texts[i], from == 0 ? due[i] : 9, desk.attempt(0, n, from));
                Due.same("bytes behind it", 0, desk.count(8));
                Due.isRefused("an attempt of one byte of it", () -> desk.attempt(0, 1, 0));
                Due.same("more by its first bytes alone", 1, desk.more(0));
            }
        }
    }

    private static void dayNotAsTold() {
        Due.by("Promise 27", "or 9 (ahead of any FAULT): the DAY is not as told.");
        SalePart desk = desk();
        for (String text : new String[] {"", "rest 1;", "rest", "frog"}) {
            for (int from : Whole.far(-2, -1, 36500, 36501)) {
                Due.same("attempt of " + text + " from " + from, 9, Texts.attempt(desk, 0, text, from));
                Due.same("fault() of it", SalePart.NONE, desk.fault());
            }
            for (int from : new int[] {0, 1, 36498, 36499}) {
                Due.same("attempt of " + text + " from " + from, text.isEmpty() || text.endsWith(";") ? 0 : 1,
                        Texts.attempt(desk, 0, text, from));
            }
        }
    }

    private static void faults() {
        Due.by("Promise 27", "0, or the FAULT");
        SalePart desk = desk();
        String[] texts = {"", "x", "rest 10001;", "due x;", "agrees 2;"};
        int[] places = {SalePart.NONE, 0, 5, 4, 7};
        for (int fault = 0; fault <= 4; fault++) {
            Due.same("attempt of " + texts[fault], fault, Texts.attempt(desk, 0, texts[fault], 0));
            Due.same("fault() of it", places[fault], desk.fault());
        }
    }

    /** A LAW from DAY 100 on gives a tenth of 1000: a text from a DAY about that gives half, or nothing more. */
    private static void toldLastOfAll() {
        Due.by("Terms, TRY", "a text as LAW of a LAND from a DAY on, as if told last of all");
        int[][] due = {{98, 0}, {99, 0}, {100, 400}, {101, 400}, {102, 400}};
        for (int[] one : due) {
            SalePart desk = desk();
            Texts.law(desk, 0, "rest 1000;", 100);
            Texts.law(desk, 0, "rest 9000;", 50);
            Texts.law(desk, 0, "rest 9000;", 201);
            Texts.law(desk, 1, "rest 9000;", 150);
            desk.sale(0, 1, 2, 200, 0, 1000, 0);
            Texts.attempt(desk, 0, "rest 5000;", one[0]);
            Due.same("more by a text from " + one[0], one[1], desk.more(0));
            desk.evenings(1);
            Texts.law(desk, 0, "rest 1000;", 102);
            Texts.attempt(desk, 0, "rest 5000;", one[0]);
            Due.same("more beside a LAW from 102", one[0] >= 102 ? 400 : 0, desk.more(0));
        }
    }

    private static void fromADayOn() {
        Due.by("Terms, TRY", "as LAW of a LAND from a DAY on (of a SALE on that DAY, and none ahead)");
        SalePart desk = desk();
        int[] days = {0, 99, 100, 101, 36499};
        for (int i = 0; i < days.length; i++) {
            desk.sale(0, 1, 2, days[i], 0, 1 << i, 0);
        }
        int[][] due = {{0, 31}, {1, 30}, {98, 30}, {99, 30}, {100, 28}, {101, 24}, {102, 16}, {36498, 16}, {36499, 16}};
        for (int[] one : due) {
            Texts.attempt(desk, 0, "rest 10000;", one[0]);
            Due.same("more from DAY " + one[0], one[1], desk.more(0));
        }
        Texts.law(desk, 0, "rest 10000;", 0);
        for (int[] one : due) {
            Texts.attempt(desk, 0, "", one[0]);
            Due.same("less from DAY " + one[0], -one[1], desk.more(0));
        }
    }

    private static void otherLands() {
        Due.by("Terms, TRY", "of all SALES in that LAND.");
        SalePart desk = desk();
        desk.sale(0, 1, 2, 0, 0, 1, 0);
        desk.sale(0, 1, 2, 0, 1, 2, 0);
        desk.sale(0, 1, 2, 0, 0, 4, 0);
        desk.sale(0, 1, 2, 0, 1, 8, 0);
        Texts.attempt(desk, 0, "rest 10000;", 0);
        Due.same("more in LAND 0", 5, desk.more(0));
        Texts.attempt(desk, 1, "rest 10000; agrees 0;", 0);
        Due.same("more in LAND 1", 10, desk.more(0));
        Texts.attempt(desk, 1, "rest 10000;", 0);
        Due.same("more in LAND 1, which doesn't agree", 0, desk.more(0));
    }

    private static void knownTonight() {
        Due.by("Terms, TRY", "as known TONIGHT");
        knownFourBehind(0);
        knownFourBehind(500);
        knownFourBehind(995);
    }

    private static void knownFourBehind(int evening) {
        SalePart desk = desk();
        desk.evenings(evening);
        for (int i = 0; i < 4; i++) {
            desk.sale(0, 1, 2, 100, 0, 1 << i, 0);
            desk.evenings(1);
        }
        Texts.attempt(desk, 0, "rest 10000;", 0);
        Due.same("more", 15, desk.more(0));
        desk.back(false, 1);
        Texts.attempt(desk, 0, "rest 10000;", 0);
        Due.same("more without one TAKEN BACK TONIGHT", 13, desk.more(0));
        Texts.law(desk, 0, "rest 10000;", 0);
        Texts.attempt(desk, 0, "rest 10000;", 0);
        Due.same("more than by a LAW told TONIGHT", 0, desk.more(0));
        desk.back(true, 0);
        Texts.attempt(desk, 0, "rest 10000;", 0);
        Due.same("more without that LAW", 13, desk.more(0));
        desk.death(0, 0, 100);
        Texts.attempt(desk, 0, "rest 10000; years 0;", 0);
        Due.same("more with a DEATH told TONIGHT", 0, desk.more(0));
        desk.back(false, 4);
        Texts.attempt(desk, 0, "rest 10000; years 0;", 0);
        Due.same("more without that DEATH", 13, desk.more(0));
        desk.sale(0, 1, 2, 50, 0, 16, 0);
        Texts.attempt(desk, 0, "due again; rest 10000;", 0);
        Due.same("more of those sold again", 13, desk.more(0));
        desk.back(false, 5);
        Texts.attempt(desk, 0, "due again; rest 10000;", 0);
        Due.same("more of none sold again", 0, desk.more(0));
    }

    private static void besideTwelveLaws() {
        Due.by("Promise 27", "9: the DAY is not as told (and not: there are 12)");
        SalePart desk = desk();
        desk.sale(0, 1, 2, 0, 0, 100, 0);
        for (int laws = 0; laws <= 12; laws++) {
            Due.same("attempt beside " + laws + " LAWS", 0, Texts.attempt(desk, 0, "rest 10000;", 0));
            Due.same("more beside " + laws + " LAWS", 100, desk.more(0));
            desk.law(0, 0, 0);
        }
        Due.same("LAWS", 12, desk.count(6));
        Due.same("a FAULT beside twelve", 2, Texts.attempt(desk, 0, "rest 10001;", 0));
        Due.same("9 beside twelve", 9, Texts.attempt(desk, 0, "rest 10001;", -1));
    }

    private static void leavesAllElse() {
        Due.by("Terms, TRY", "as if told (it is no LAW: nothing else is another by it)");
        SalePart desk = desk();
        desk.society(0, 100);
        Texts.law(desk, 0, "rest 1000;", 0);
        desk.sale(0, 1, 2, 0, 0, 1000, 0);
        desk.fact(5, 0, 0, 0, 0);
        Texts.attempt(desk, 0, "rest 3000;", 0);
        Whole.stays(desk, "an attempt like the last", () -> Texts.attempt(desk, 0, "rest 3000;", 0));
        Due.same("its LAW", 0, desk.sold(0, 5, 0));
        Due.same("its PART", 100, desk.sold(0, 2, 0));
        Due.same("GETS", 90, desk.gets(0, 0, 0));
        Due.same("LAWS", 1, desk.count(6));
        Due.isMissing("LAW 1", () -> desk.back(true, 1) ? 1 : 0);
        Due.same("the next LAW", 1, Texts.law(desk, 0, "rest 2000;", 0));
        Due.same("its PART by it", 200, desk.sold(0, 2, 0));
        Due.same("more by the TRY still", 200, desk.more(0));
    }

    private static void asAnArtist() {
        Due.by("Terms, TRY", "how much more is each PERSON's as an ARTIST");
        SalePart desk = desk();
        desk.joins(0, 3, 1);
        desk.society(0, 300);
        desk.fact(5, 0, 3, 0, 0);
        desk.death(0, 0, 0);
        desk.heir(0, 4, 1, 1);
        desk.sale(0, 1, 2, 10, 0, 1000, 0);
        Texts.attempt(desk, 0, "rest 10000;", 0);
        int[] due = {500, 0, 0, 500, 0, 0};
        for (int p = 0; p < due.length; p++) {
            Due.same("more of PERSON " + p, due[p], desk.more(p));
        }
    }

    private static void eachCutDown() {
        Due.by("Terms, PART", "Of it each ARTIST's: .. cut down (of each SALE, by the LAW and by the text)");
        SalePart desk = desk();
        desk.joins(0, 3, 2);
        Texts.law(desk, 0, "rest 5000;", 0);
        for (int i = 0; i < 5; i++) {
            desk.sale(0, 1, 2, 10, 0, 3, 0);
        }
        // Of 3 by the LAW 1: 0 and 0; by the text 3: 1 and 2.
        Texts.attempt(desk, 0, "rest 10000;", 0);
        Due.same("more of weight 1", 5, desk.more(0));
        Due.same("more of weight 2", 10, desk.more(3));
        Texts.attempt(desk, 0, "rest 9999;", 0);
        Due.same("more of weight 1, of 2", 0, desk.more(0));
        Due.same("more of weight 2, of 2", 5, desk.more(3));
        Texts.attempt(desk, 0, "", 0);
        Due.same("less of weight 1", 0, desk.more(0));
        Due.same("less of weight 2", 0, desk.more(3));
    }

    private static void forByTheText() {
        Due.by("Terms, TRY", "more is each PERSON's: by the text's 'years' and 'agrees'");
        SalePart desk = desk();
        desk.joins(0, 5, 1);
        Texts.law(desk, 0, "rest 10000; years 1; agrees 1;", 0);
        desk.death(0, 0, 0);
        desk.sale(0, 1, 2, 364, 0, 200, 0);
        desk.sale(0, 1, 2, 365, 0, 2000, 0);
        int[][] due = {{1, 0}, {0, -100}, {2, 1000}, {70, 1000}};
        for (int[] one : due) {
            Texts.attempt(desk, 0, "rest 10000; agrees 1; years " + one[0] + ";", 0);
            Due.same("more by years " + one[0], one[1], desk.more(0));
            Due.same("more of the other", 0, desk.more(5));
        }
        Texts.attempt(desk, 0, "rest 10000; years 1;", 0);
        Due.same("less without 'agrees'", -1100, desk.more(5));
        Texts.attempt(desk, 0, "rest 10000; agrees 1;", 0);
        Due.same("more by 70 years", 1000, desk.more(0));
    }

    private static void countsByTheText() {
        Due.by("Terms, TRY", "more is each PERSON's: whether it COUNTS by the text or by the LAW");
        String[] texts = {"due 1; rest 10000;", "due 0; rest 10000;", "least 100; rest 10000;", "least 101; rest 10000;",
            "due price = 100; rest 10000; most 7;", ""};
        int[] worth = {100, 0, 100, 0, 7, 0};
        for (int law = 0; law < texts.length; law++) {
            for (int text = 0; text < texts.length; text++) {
                SalePart desk = desk();
                Texts.law(desk, 0, texts[law], 0);
                desk.sale(0, 1, 2, 10, 0, 100, 0);
                Texts.attempt(desk, 0, texts[text], 0);
                Due.same("more by " + texts[text] + " than by " + texts[law], worth[text] - worth[law], desk.more(0));
            }
        }
    }

    private static void moreOfNobody() {
        Due.by("Promise 28", "throws NoSuchElementException (no such PERSON, as everywhere)");
        SalePart desk = desk();
        for (int person : Whole.far(-2, -1, 6, 7, 29, 30)) {
            Due.isMissing("PERSON " + person, () -> desk.more(person));
        }
        Due.same("PERSON 0", 0, desk.more(0));
        Due.same("PERSON 5", 0, desk.more(5));
        while (desk.count(2) < 30) {
            desk.person(0, 0);
        }
        Due.same("PERSON 29", 0, desk.more(29));
        Due.isMissing("PERSON 30", () -> desk.more(30));
    }

    private static void moreWithoutOne() {
        Due.by("Promise 28", "0 without one.");
        SalePart desk = desk();
        desk.sale(0, 1, 2, 10, 0, 100, 0);
        Texts.law(desk, 0, "rest 10000;", 0);
        Due.same("behind a law", 0, desk.more(0));
        Texts.attempt(desk, 0, "rest", 0);
        Due.same("behind a FAULT", 0, desk.more(0));
        Texts.attempt(desk, 0, "rest 5000;", -1);
        Due.same("behind 9", 0, desk.more(0));
        Due.isRefused("behind an exception", () -> desk.attempt(0, 1, 0));
        Due.same("behind that", 0, desk.more(0));
        Texts.attempt(desk, 0, "rest 5000;", 0);
        Due.same("behind one", -50, desk.more(0));
    }

    private static void moreByTheLatest() {
        Due.by("Promise 28", "How much more is a PERSON's by the latest TRY without a FAULT");
        SalePart desk = desk();
        desk.sale(0, 1, 2, 10, 0, 100, 0);
        Texts.attempt(desk, 0, "rest 5000;", 0);
        Due.same("the first", 50, desk.more(0));
        for (String text : new String[] {"rest 1000", "rest 10001;", "due x;", "agrees 2;"}) {
            Texts.attempt(desk, 0, text, 0);
            Due.same("behind a FAULT of " + text, 50, desk.more(0));
        }
        Texts.law(desk, 0, "rest", 0);
        Due.same("behind a law's FAULT", 50, desk.more(0));
        Texts.attempt(desk, 0, "rest 1000;", 36500);
        Due.same("behind 9", 50, desk.more(0));
        Texts.attempt(desk, 0, "rest 1000;", 0);
        Due.same("the second", 10, desk.more(0));
        Texts.attempt(desk, 1, "rest 1000;", 0);
        Due.same("one of another LAND", 0, desk.more(0));
        Texts.attempt(desk, 0, "rest 2000;", 0);
        Due.same("the fourth", 20, desk.more(0));
        Texts.attempt(desk, 0, "rest 2000;", 11);
        Due.same("one from behind its DAY", 0, desk.more(0));
    }

    private static void moreOfLaterPersons() {
        Due.by("Promise 28", "How much more is a PERSON's (0 of one who came behind the TRY)");
        SalePart desk = desk();
        desk.sale(0, 1, 2, 10, 0, 100, 0);
        Texts.attempt(desk, 0, "rest 5000;", 0);
        Due.same("the new one's number", 6, desk.person(0, 0));
        Due.same("more of it", 0, desk.more(6));
        desk.work(6, 1, 1, 0, 1, 1);
        desk.sale(1, 1, 2, 10, 0, 100, 0);
        Due.same("more of it with a SALE behind the TRY", 0, desk.more(6));
        Texts.attempt(desk, 0, "rest 5000;", 0);
        Due.same("more of it by a TRY behind that", 50, desk.more(6));
    }

    private static void moreThanAnInt() {
        Due.by("Promise 28", "long more(int person) (more than an int holds, either way)");
        SalePart desk = desk();
        desk.rate(0, 0, 99999);
        for (int i = 0; i < 200; i++) {
            desk.sale(0, 1, 2, i, 0, 20000000, 0);
        }
        Texts.attempt(desk, 0, "rest 10000;", 0);
        Due.same("more", 200 * 1999980000L, desk.more(0));
        Texts.attempt(desk, 0, "rest 10000;", 198);
        Due.same("more of two", 2 * 1999980000L, desk.more(0));
        Texts.law(desk, 0, "rest 10000;", 0);
        Texts.attempt(desk, 0, "due 0;", 0);
        Due.same("less", -200 * 1999980000L, desk.more(0));
        Texts.attempt(desk, 0, "due 0;", 198);
        Due.same("less of two", -2 * 1999980000L, desk.more(0));
    }
}
