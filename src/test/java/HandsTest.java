/** Promises 24 to 26: WORKS KNOWN AGAIN, with whom they are, and HIDDEN changes of hands. */
public final class HandsTest {
    private static final int NONE = SalePart.NONE;

    private HandsTest() {
    }

    public static void main(String[] args) {
        again();
        with();
        hidden();
        hiddenByNumber();
        hiddenNowhere();
        Due.end();
    }

    private static SalePart desk() {
        SalePart desk = new SalePart();
        desk.land();
        for (int i = 0; i < 6; i++) {
            desk.person(0, 0);
        }
        return desk;
    }

    private static void again() {
        SalePart desk = desk();
        desk.work(0, 1, 1, 0b0111, 100, 200);
        desk.work(0, 1, 1, 0b1110, 110, 190);
        desk.work(0, 1, 1, 0xffff, 999, 1);
        Due.same("no marks, exactly", 0b001, desk.again(0, 100, 200, 0));
        Due.same("no marks, within 10", 0b011, desk.again(0, 100, 200, 10));
        Due.same("within 9", 0b001, desk.again(0, 100, 200, 9));
        Due.same("width is within, height isn't", 0b000, desk.again(0, 100, 210, 9));
        Due.same("height is within, width isn't", 0b000, desk.again(0, 90, 200, 9));
        Due.same("below and above", 0b001, desk.again(0, 90, 210, 10));
        Due.same("marks of both", 0b011, desk.again(0b0110, 105, 195, 5));
        Due.same("marks of the first", 0b001, desk.again(0b0001, 105, 195, 5));
        Due.same("marks of the second", 0b010, desk.again(0b1000, 105, 195, 5));
        Due.same("marks of neither", 0b000, desk.again(0b1001, 105, 195, 5));
        Due.same("within all", 0b111, desk.again(0, 500, 500, 999));
        Due.same("within more than all", 0b111, desk.again(0, 500, 500, Integer.MAX_VALUE));
        Due.same("all marks", 0b100, desk.again(0xffff, 500, 500, 999));
        Due.same("a mark that no WORK has", 0, desk.again(0x10000, 500, 500, 999));
        Due.same("marks below 0", 0, desk.again(-1, 500, 500, 999));
        Due.same("far off", 0, desk.again(0, Integer.MIN_VALUE, Integer.MIN_VALUE, Integer.MAX_VALUE));
        Due.same("far above", 0b111, desk.again(0, Integer.MAX_VALUE, 1, Integer.MAX_VALUE));
        Due.isRefused("within -1", () -> desk.again(0, 100, 200, -1));
        for (int i = 3; i < 30; i++) {
            desk.work(0, 1, 1, 0, 1, 1);
        }
        Due.same("thirty WORKS", 0x3fffffff, desk.again(0, 500, 500, 999));
    }

    private static void with() {
        SalePart desk = desk();
        desk.work(0, 1, 1, 0, 1, 1);
        desk.work(0, 1, 1, 0, 1, 1);
        Due.same("nothing is told", NONE, desk.with(0, 36499, 0));
        desk.sale(0, 0, 1, 100, 0, 5, 0);
        desk.fact(3, 0, 3, 4, 50);
        desk.fact(4, 0, 2, 5, 200);
        desk.fact(3, 0, 4, 3, 100);
        desk.sale(1, 0, 5, 60, 0, 5, 0);
        int[] days = {0, 49, 50, 99, 100, 199, 200, 36499};
        int[] due = {NONE, NONE, 4, 4, 3, 3, 2, 2};
        for (int i = 0; i < days.length; i++) {
            Due.same("with whom on DAY " + days[i], due[i], desk.with(0, days[i], 0));
        }
        desk.evenings(1);
        desk.back(false, 3);
        desk.sale(0, 2, 0, 200, 0, 5, 0);
        Due.same("behind one TAKEN BACK", 1, desk.with(0, 100, 1));
        Due.same("by the last number of a DAY", 0, desk.with(0, 200, 1));
        Due.same("as known ahead", 3, desk.with(0, 100, 0));
        Due.same("as known ahead, later", 2, desk.with(0, 200, 0));
        Due.isMissing("with of no WORK", () -> desk.with(2, 0, 9));
        Due.isMissing("with of WORK -1", () -> desk.with(-1, 0, 0));
        Due.isMissing("with on DAY -1", () -> desk.with(0, -1, 9));
        Due.isMissing("with on DAY 36500", () -> desk.with(0, 36500, 0));
        Due.isRefused("with as known on EVENING 2", () -> desk.with(0, 0, 2));
        Due.isRefused("with as known on EVENING -1", () -> desk.with(0, 0, -1));
    }

    private static void gap(SalePart desk, int i, int k, int... due) {
        for (int what = 0; what < 4; what++) {
            Due.same("hidden(0, " + i + ", " + what + ", " + k + ")", due[what], desk.hidden(0, i, what, k));
        }
    }

    private static void hidden() {
        SalePart desk = desk();
        desk.work(0, 1, 1, 0, 1, 1);
        desk.work(0, 1, 1, 0, 1, 1);
        Due.same("none where nothing is told", 0, desk.hidden(0, NONE, 0, 0));
        Due.isMissing("the first where nothing is told", () -> desk.hidden(0, 0, 0, 0));
        desk.sale(0, 1, 2, 300, 0, 5, 0);
        Due.same("none of one alone", 0, desk.hidden(0, NONE, 3, 0));
        desk.fact(3, 0, 0, 1, 100);
        Due.same("none from hand to hand", 0, desk.hidden(0, NONE, 0, 0));
        desk.fact(4, 0, 3, 0, 200);
        Due.same("two about one SEEN", 2, desk.hidden(0, NONE, 0, 0));
        gap(desk, 0, 0, 100, 200, 1, 3);
        gap(desk, 1, 0, 200, 300, 3, 1);
        desk.fact(4, 1, 5, 0, 200);
        desk.fact(4, 0, 2, 0, 400);
        Due.same("none more by SEEN where it is", 2, desk.hidden(0, NONE, 0, 0));
        desk.evenings(1);
        desk.back(false, 2);
        desk.sale(0, 5, 2, 500, 0, 5, 0);
        Due.same("one behind what was TAKEN BACK", 1, desk.hidden(0, NONE, 0, 1));
        gap(desk, 0, 1, 400, 500, 2, 5);
        gap(desk, 1, 0, 200, 300, 3, 1);
        Due.isMissing("the second of one", () -> desk.hidden(0, 1, 0, 1));
        Due.isMissing("i is -2", () -> desk.hidden(0, -2, 0, 1));
        Due.isMissing("what is 4", () -> desk.hidden(0, 0, 4, 9));
        Due.isMissing("what is -1", () -> desk.hidden(0, NONE, -1, 1));
        Due.isMissing("no WORK", () -> desk.hidden(2, NONE, 0, 9));
        Due.isRefused("EVENING 2", () -> desk.hidden(0, NONE, 0, 2));
        Due.isRefused("EVENING -1", () -> desk.hidden(0, 0, 0, -1));
    }

    private static void hiddenByNumber() {
        SalePart desk = desk();
        desk.work(0, 1, 1, 0, 1, 1);
        desk.sale(0, 1, 2, 7, 0, 5, 0);
        desk.sale(0, 0, 1, 7, 0, 5, 0);
        desk.sale(0, 2, 3, 7, 0, 5, 0);
        Due.same("of like DAYS by number", 2, desk.hidden(0, NONE, 0, 0));
        gap(desk, 0, 0, 7, 7, 2, 0);
        gap(desk, 1, 0, 7, 7, 1, 2);
    }

    /** An EVENING that there isn't is told ahead of an i that there isn't, but behind a WORK or a what. */
    private static void hiddenNowhere() {
        SalePart desk = desk();
        desk.work(0, 1, 1, 0, 1, 1);
        desk.work(0, 1, 1, 0, 1, 1);
        desk.sale(0, 1, 2, 7, 0, 5, 0);
        desk.sale(0, 3, 4, 8, 0, 5, 0);
        desk.evenings(2);
        int[] none = {Integer.MIN_VALUE, -12804408, -3, -2, 1, 2, 200, Integer.MAX_VALUE};
        int[] nights = {Integer.MIN_VALUE, -1, 3, Integer.MAX_VALUE};
        for (int i : none) {
            for (int k = 0; k <= 2; k++) {
                int night = k;
                Due.isMissing("hidden " + i + " on EVENING " + k, () -> desk.hidden(0, i, 0, night));
                Due.isMissing("hidden " + i + " where nothing is told", () -> desk.hidden(1, i, 3, night));
            }
            for (int k : nights) {
                Due.isRefused("hidden " + i + " on no EVENING " + k, () -> desk.hidden(0, i, 0, k));
                Due.isRefused("hidden " + i + " of nothing on no EVENING " + k, () -> desk.hidden(1, i, 3, k));
                Due.isMissing("hidden " + i + ", what 4, EVENING " + k, () -> desk.hidden(0, i, 4, k));
                Due.isMissing("hidden " + i + ", what -1, EVENING " + k, () -> desk.hidden(0, i, -1, k));
                Due.isMissing("hidden " + i + " of no WORK, EVENING " + k, () -> desk.hidden(2, i, 0, k));
            }
        }
        for (int k : nights) {
            Due.isRefused("how many on no EVENING " + k, () -> desk.hidden(0, NONE, 0, k));
            Due.isRefused("the first on no EVENING " + k, () -> desk.hidden(0, 0, 0, k));
        }
        Due.same("how many", 1, desk.hidden(0, NONE, 0, 2));
    }
}
