/** Promises 27 and 28: another LAW tried on the same SALES. */
public final class TryTest {
    private static final int NONE = SalePart.NONE;

    private TryTest() {
    }

    public static void main(String[] args) {
        exceptions();
        more();
        likeDays();
        withoutLaw();
        known();
        keeps();
        shares();
        Due.end();
    }

    /** Two LANDS, four PERSONS, a WORK of PERSON 0, a LAW by which a tenth is its. */
    private static SalePart desk() {
        SalePart desk = new SalePart();
        desk.land();
        desk.land();
        for (int i = 0; i < 4; i++) {
            desk.person(0, 0);
        }
        desk.work(0, 1, 1, 0, 1, 1);
        Texts.law(desk, 0, "rest 1000;", 100);
        return desk;
    }

    private static void exceptions() {
        SalePart desk = desk();
        Texts.feed(desk, "rest 1;");
        Due.isMissing("attempt in no LAND", () -> desk.attempt(2, -1, 0));
        Due.isRefused("n below 0", () -> desk.attempt(0, -1, -1));
        Due.isRefused("n above the tape", () -> desk.attempt(0, 21, 0));
        Due.same("the tape is left", 20, desk.count(8));
        Due.same("ahead of all DAYS", 9, desk.attempt(0, 3, -1));
        Due.same("no FAULT", NONE, desk.fault());
        Due.same("the tape is emptied", 0, desk.count(8));
        Due.same("behind all DAYS", 9, Texts.attempt(desk, 0, "rest", 36500));
        Due.same("a FAULT", 3, Texts.attempt(desk, 0, "due x;", 0));
        Due.same("its place", 4, desk.fault());
        Due.same("the tape is emptied by it", 0, desk.count(8));
        Due.same("on the last DAY", 0, Texts.attempt(desk, 0, "rest 1;", 36499));
        Due.same("no place", NONE, desk.fault());
        Due.same("LAWS are as they were", 1, desk.count(6));
        Due.isMissing("more of nobody", () -> desk.more(4));
        Due.isMissing("more of PERSON -1", () -> desk.more(-1));
        for (int i = 1; i < 12; i++) {
            desk.law(0, 0, 0);
        }
        Due.same("attempt beside twelve LAWS", 0, Texts.attempt(desk, 0, "rest 1;", 0));
    }

    private static void more() {
        SalePart desk = desk();
        desk.sale(0, 1, 2, 150, 0, 1000, 0);
        desk.sale(0, 1, 2, 200, 0, 2000, 0);
        desk.sale(0, 1, 2, 250, 0, 4000, 0);
        desk.sale(0, 1, 2, 250, 1, 9000, 0);
        Due.same("more without a TRY", 0, desk.more(0));
        Texts.attempt(desk, 0, "rest 2000;", 200);
        Due.same("more from a DAY on", 600, desk.more(0));
        Due.same("more of another one", 0, desk.more(1));
        Due.same("the LAW itself is as it was", 200, desk.sold(1, 2, 0));
        Texts.attempt(desk, 0, "rest 500;", 201);
        Due.same("less", -200, desk.more(0));
        Texts.attempt(desk, 0, "rest 2000;", 99);
        Due.same("a LAW from a later DAY counts", 0, desk.more(0));
        Texts.attempt(desk, 0, "due 0; rest 2000;", 101);
        Due.same("nothing is DUE", -700, desk.more(0));
        Texts.attempt(desk, 1, "rest 2000;", 0);
        Due.same("not FOR one of another LAND", 0, desk.more(0));
        Texts.attempt(desk, 1, "rest 2000; agrees 0;", 0);
        Due.same("in the other LAND", 1800, desk.more(0));
    }

    private static void likeDays() {
        SalePart desk = desk();
        desk.sale(0, 1, 2, 150, 0, 1000, 0);
        Texts.attempt(desk, 0, "rest 3000;", 100);
        Due.same("as if told last of all", 200, desk.more(0));
    }

    private static void withoutLaw() {
        SalePart desk = desk();
        desk.sale(0, 1, 2, 50, 0, 1000, 0);
        Texts.attempt(desk, 0, "rest 3000;", 50);
        Due.same("where no LAW was", 300, desk.more(0));
        Texts.attempt(desk, 0, "rest 3000;", 51);
        Due.same("from a later DAY", 0, desk.more(0));
    }

    private static void known() {
        SalePart desk = desk();
        desk.sale(0, 1, 2, 150, 0, 1000, 0);
        desk.evenings(1);
        desk.sale(0, 1, 2, 150, 0, 10000, 0);
        desk.back(false, 0);
        Texts.attempt(desk, 0, "rest 2000;", 100);
        Due.same("as known TONIGHT", 1000, desk.more(0));
        desk.back(true, 0);
        Texts.attempt(desk, 0, "rest 2000;", 100);
        Due.same("behind a LAW TAKEN BACK", 2000, desk.more(0));
    }

    /** What a TRY came to stays so until the next one without a FAULT. */
    private static void keeps() {
        SalePart desk = desk();
        desk.sale(0, 1, 2, 150, 0, 1000, 0);
        Texts.attempt(desk, 0, "rest 2000;", 100);
        desk.sale(0, 1, 2, 160, 0, 1000, 0);
        desk.evenings(1);
        desk.back(false, 0);
        Due.same("more behind another SALE", 100, desk.more(0));
        Due.same("a FAULT", 1, Texts.attempt(desk, 0, "rest 4000", 100));
        Due.same("more behind a FAULT", 100, desk.more(0));
        Due.same("DAY not as told", 9, Texts.attempt(desk, 0, "rest 4000;", -1));
        Due.same("more behind that", 100, desk.more(0));
        Due.same("a law", -2, Texts.law(desk, 0, "rest 4000", 100));
        Due.same("more behind a law's FAULT", 100, desk.more(0));
        desk.person(0, 0);
        Due.same("more of a new PERSON", 0, desk.more(4));
        Texts.attempt(desk, 0, "rest 1000;", 100);
        Due.same("more by the latest", 0, desk.more(0));
    }

    /** As ARTISTS: not what goes on to HEIRS, and cut down by SALES. */
    private static void shares() {
        SalePart desk = desk();
        desk.joins(0, 3, 2);
        desk.death(0, 1, 1);
        desk.heir(0, 1, 1, 1);
        for (int i = 0; i < 3; i++) {
            desk.sale(0, 1, 2, 150, 0, 100, 0);
        }
        Texts.attempt(desk, 0, "rest 2000;", 100);
        Due.same("of a third of 20 for a third of 10, three times", 9, desk.more(0));
        Due.same("of two thirds", 21, desk.more(3));
        Due.same("of an HEIR", 0, desk.more(1));
        Texts.attempt(desk, 0, "rest 2000; years 0;", 100);
        Due.same("not FOR who is DEAD so long", -9, desk.more(0));
    }
}
