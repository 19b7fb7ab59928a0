/** Promises 24 to 26 where the document names a boundary; each method is of one sentence. */
public final class HandsEdgeTest {
    private static final int NONE = SalePart.NONE;
    private static final int LEAST = Integer.MIN_VALUE;
    private static final int MOST = Integer.MAX_VALUE;

    private HandsEdgeTest() {
    }

    public static void main(String[] args) {
        withinBelowZero();
        withinSizes();
        marksAllThere();
        marksThatNoneHas();
        againBits();
        againFarOff();
        withOfNothing();
        withDays();
        withEvenings();
        withAtDaysEnd();
        withLikeDays();
        withNotTold();
        hiddenOfNothing();
        hiddenWhat();
        hiddenEvenings();
        hiddenNumbers();
        hiddenBetween();
        hiddenByDaysAndNumbers();
        hiddenSeen();
        hiddenAsKnown();
        hiddenAtMost();
        Due.end();
    }

    private static SalePart desk() {
        return Desks.of(1, 6);
    }

    private static SalePart deskOfWork() {
        return Desks.ofWork(1, 6);
    }

    private static void withinBelowZero() {
        Due.by("Promise 24", "IllegalArgumentException: within is below 0.");
        SalePart desk = desk();
        for (int works = 0; works <= 1; works++) {
            for (int within : new int[] {-1, -2, LEAST}) {
                Due.isRefused("within " + within, () -> desk.again(0, 1, 1, within));
                Due.isRefused("within " + within + ", far off", () -> desk.again(-1, LEAST, MOST, within));
            }
            for (int within : new int[] {0, 1, MOST}) {
                Due.same("within " + within, works, desk.again(0, 1, 1, within));
            }
            desk.work(0, 1, 1, 0, 1, 1);
        }
    }

    private static void withinSizes() {
        Due.by("Terms, KNOWN AGAIN", "width and height are each within so many of it.");
        SalePart desk = desk();
        desk.work(0, 1, 1, 0, 500, 300);
        for (int within : new int[] {0, 1, 2, 50}) {
            for (int off = Math.max(0, within - 1); off <= within + 1; off++) {
                int due = off <= within ? 1 : 0;
                Due.same("width " + off + " below, within " + within, due, desk.again(0, 500 - off, 300, within));
                Due.same("width " + off + " above, within " + within, due, desk.again(0, 500 + off, 300, within));
                Due.same("height " + off + " below, within " + within, due, desk.again(0, 500, 300 - off, within));
                Due.same("height " + off + " above, within " + within, due, desk.again(0, 500, 300 + off, within));
                Due.same("both " + off + " off, within " + within, due, desk.again(0, 500 - off, 300 + off, within));
            }
        }
        Due.same("turned", 0, desk.again(0, 300, 500, 199));
        Due.same("turned, within its difference", 1, desk.again(0, 300, 500, 200));
    }

    private static void marksAllThere() {
        Due.by("Terms, KNOWN AGAIN", "if all its marks are the WORK's");
        SalePart desk = desk();
        desk.work(0, 1, 1, 0, 1, 1);
        desk.work(0, 1, 1, 0xffff, 1, 1);
        desk.work(0, 1, 1, 0x5555, 1, 1);
        Due.same("no marks", 0b111, desk.again(0, 1, 1, 0));
        for (int bit = 0; bit < 16; bit++) {
            int due = bit % 2 == 0 ? 0b110 : 0b010;
            Due.same("mark " + bit, due, desk.again(1 << bit, 1, 1, 0));
            Due.same("mark " + bit + " and the first", due, desk.again(1 << bit | 1, 1, 1, 0));
            Due.same("mark " + bit + " and the second", 0b010, desk.again(1 << bit | 2, 1, 1, 0));
        }
        Due.same("all marks of the third", 0b110, desk.again(0x5555, 1, 1, 0));
        Due.same("all marks", 0b010, desk.again(0xffff, 1, 1, 0));
    }

    private static void marksThatNoneHas() {
        Due.by("Terms", "marks (16 bits) (an ENTRY's 17th and above are no WORK's)");
        SalePart desk = desk();
        desk.work(0, 1, 1, 0xffff, 1, 1);
        for (int bit = 0; bit < 32; bit++) {
            Due.same("mark " + bit, bit < 16 ? 1 : 0, desk.again(1 << bit, 1, 1, 0));
        }
        Due.same("65535", 1, desk.again(65535, 1, 1, 0));
        Due.same("65536", 0, desk.again(65536, 1, 1, 0));
        Due.same("-1", 0, desk.again(-1, 1, 1, 0));
        Due.same("-65536", 0, desk.again(-65536, 1, 1, 0));
    }

    private static void againBits() {
        Due.by("Promise 24", "Which WORKS an ENTRY may be, within so many, as bits.");
        SalePart desk = desk();
        Due.same("without WORKS", 0, desk.again(0, 500, 500, 999));
        for (int i = 0; i < 30; i++) {
            desk.work(0, 1, 1, 0, 10 + 10 * i, 5);
            Due.same("the last of " + (i + 1), 1 << i, desk.again(0, 10 + 10 * i, 5, 9));
            Due.same("all of " + (i + 1), (1 << i) * 2 - 1, desk.again(0, 10, 5, 999));
        }
        Due.same("three in the middle", 0b111 << 14, desk.again(0, 160, 5, 10));
        desk.work(0, 1, 1, 0, 10, 5);
        Due.same("all thirty", 0x3fffffff, desk.again(0, 10, 5, 999));
    }

    private static void againFarOff() {
        Due.by("Promise 24", "Which WORKS an ENTRY may be (whatever ints its width and height are)");
        SalePart desk = desk();
        desk.work(0, 1, 1, 0, 1, 999);
        desk.work(0, 1, 1, 0, 999, 1);
        Due.same("0 and 1000, within 1", 0b01, desk.again(0, 0, 1000, 1));
        Due.same("1000 and 0, within 1", 0b10, desk.again(0, 1000, 0, 1));
        Due.same("0 and 1000, within 0", 0, desk.again(0, 0, 1000, 0));
        Due.same("-10 and 1010, within 11", 0b01, desk.again(0, -10, 1010, 11));
        Due.same("-10 and 1010, within 10", 0, desk.again(0, -10, 1010, 10));
        Due.same("far below, within all ints", 0, desk.again(0, LEAST, LEAST, MOST));
        Due.same("far above, within all ints", 0b11, desk.again(0, MOST, MOST, MOST));
        Due.same("far above, within less", 0, desk.again(0, MOST, MOST, MOST - 2));
        Due.same("far above, within just so many of both", 0b11, desk.again(0, MOST, 999, MOST - 1));
        Due.same("far above, within one less", 0b10, desk.again(0, MOST, 999, MOST - 2));
        Due.same("far above, within just so many of the wider", 0b10, desk.again(0, MOST, 999, MOST - 999));
        Due.same("far above, within one less than that", 0, desk.again(0, MOST, 999, MOST - 1000));
        Due.same("far below, within just so many of both", 0b11, desk.again(0, -MOST + 999, 1, MOST));
        Due.same("one more below", 0b01, desk.again(0, -MOST + 998, 1, MOST));
        Due.same("just so far below of the narrower", 0b01, desk.again(0, -MOST + 1, 1, MOST));
        Due.same("one more below than that", 0, desk.again(0, -MOST, 1, MOST));
        Due.same("a height far below", 0b10, desk.again(0, 1, -MOST + 1, MOST));
        Due.same("a height one more below", 0, desk.again(0, 1, -MOST, MOST));
    }

    private static void withOfNothing() {
        Due.by("Promise 25", "throws NoSuchElementException (no such WORK, as everywhere)");
        SalePart desk = deskOfWork();
        for (int work : Whole.far(-1, 1, 2, 30)) {
            for (int k = -1; k <= 1; k++) {
                int on = k;
                Due.isMissing("WORK " + work, () -> desk.with(work, 0, on));
                Due.isMissing("WORK " + work + " on no DAY", () -> desk.with(work, -1, on));
            }
        }
        Due.same("WORK 0", NONE, desk.with(0, 0, 0));
    }

    private static void withDays() {
        Due.by("Promise 25", "NoSuchElementException: no such DAY.");
        SalePart desk = deskOfWork();
        desk.fact(4, 0, 2, 0, 0);
        for (int day : Whole.far(-2, -1, 36500, 36501)) {
            for (int k = -1; k <= 1; k++) {
                int on = k;
                Due.isMissing("DAY " + day + " on EVENING " + k, () -> desk.with(0, day, on));
            }
        }
        for (int day : new int[] {0, 1, 36498, 36499}) {
            Due.same("DAY " + day, 2, desk.with(0, day, 0));
        }
    }

    private static void withEvenings() {
        Due.by("Promise 25", "IllegalArgumentException likewise (no such EVENING: 0 to TONIGHT).");
        SalePart desk = deskOfWork();
        desk.fact(4, 0, 2, 0, 0);
        for (int tonight : new int[] {0, 1, 999}) {
            desk.evenings(tonight - desk.count(0));
            for (int k : Whole.far(-1, tonight + 1)) {
                Due.isRefused("EVENING " + k, () -> desk.with(0, 0, k));
                Due.isRefused("EVENING " + k + ", last DAY", () -> desk.with(0, 36499, k));
            }
            Due.same("EVENING 0", 2, desk.with(0, 0, 0));
            Due.same("EVENING " + tonight, 2, desk.with(0, 0, tonight));
        }
    }

    private static void withAtDaysEnd() {
        Due.by("Promise 25", "With whom a WORK is at a DAY's end, as known on EVENING k");
        for (int kind = 2; kind <= 4; kind++) {
            SalePart desk = deskOfWork();
            desk.fact(4, 0, 5, 0, 50);
            hand(desk, kind, 1, 2, 100);
            int[][] due = {{49, NONE}, {50, 5}, {51, 5}, {99, 5}, {100, kind == 4 ? 1 : 2}, {101, kind == 4 ? 1 : 2}};
            for (int[] one : due) {
                Due.same("on DAY " + one[0] + ", KIND " + kind, one[1], desk.with(0, one[0], 0));
            }
        }
    }

    /** A SALE, a GIFT or a SEEN: from one (SEEN: with it) to other. */
    private static int hand(SalePart desk, int kind, int one, int other, int day) {
        return kind == 2 ? desk.sale(0, one, other, day, 0, 1, 0) : desk.fact(kind, 0, one, other, day);
    }

    private static void withLikeDays() {
        Due.by("Terms, HANDS", "by DAYS, of like DAYS by number");
        SalePart desk = deskOfWork();
        for (int i = 0; i < 6; i++) {
            hand(desk, 2 + i % 2, (i + 1) % 6, i, 100);
            Due.same("with whom on the DAY of " + (i + 1), i, desk.with(0, 100, 0));
            hand(desk, 2, i, (i + 1) % 6, 99);
            Due.same("with whom behind one of a DAY ahead", i, desk.with(0, 100, 0));
            Due.same("with whom on the DAY ahead", (i + 1) % 6, desk.with(0, 99, 0));
        }
        desk.back(false, 10);
        Due.same("without the last", 4, desk.with(0, 100, 0));
    }

    private static void withNotTold() {
        Due.by("Promise 25", "NONE: it isn't told.");
        SalePart desk = deskOfWork();
        desk.work(0, 1, 1, 0, 1, 1);
        desk.society(0, 0);
        desk.death(0, 0, 0);
        desk.heir(0, 1, 1, 1);
        desk.fact(5, 0, 0, 0, 0);
        desk.fact(4, 1, 3, 0, 0);
        Due.same("by other FACTS", NONE, desk.with(0, 36499, 0));
        desk.evenings(1);
        desk.fact(4, 0, 3, 0, 7);
        desk.evenings(1);
        desk.back(false, 4);
        int[] due = {NONE, 3, NONE};
        for (int k = 0; k <= 2; k++) {
            Due.same("on EVENING " + k, due[k], desk.with(0, 7, k));
            Due.same("ahead of its DAY on EVENING " + k, NONE, desk.with(0, 6, k));
        }
    }

    private static void hiddenOfNothing() {
        Due.by("Promise 26", "throws NoSuchElementException (no such WORK, as everywhere)");
        SalePart desk = deskOfWork();
        for (int work : Whole.far(-1, 1, 2)) {
            for (int k = -1; k <= 1; k++) {
                int on = k;
                Due.isMissing("WORK " + work + " on EVENING " + k, () -> desk.hidden(work, NONE, 0, on));
                Due.isMissing("WORK " + work + ", i 0, on EVENING " + k, () -> desk.hidden(work, 0, 0, on));
            }
        }
        Due.same("WORK 0", 0, desk.hidden(0, NONE, 0, 0));
    }

    /** Two HIDDEN changes: from 1 to 2 on DAYS 10 and 20, from 3 to 4 on DAYS 20 and 30; on EVENING 1. */
    private static SalePart two() {
        SalePart desk = deskOfWork();
        desk.evenings(1);
        desk.sale(0, 0, 1, 10, 0, 1, 0);
        desk.sale(0, 2, 3, 20, 0, 1, 0);
        desk.sale(0, 4, 5, 30, 0, 1, 0);
        return desk;
    }

    private static void hiddenWhat() {
        Due.by("Promise 26", "NoSuchElementException: another what.");
        SalePart desk = two();
        for (int what : Whole.far(-2, -1, 4, 5)) {
            for (int k = 0; k <= 1; k++) {
                for (int i = -2; i <= 2; i++) {
                    int number = i;
                    int on = k;
                    Due.isMissing("what " + what + " of " + i, () -> desk.hidden(0, number, what, on));
                }
            }
        }
        int[][] due = {{10, 20, 1, 2}, {20, 30, 3, 4}};
        for (int what = 0; what <= 3; what++) {
            for (int i = 0; i <= 1; i++) {
                Due.same("what " + what + " of " + i, due[i][what], desk.hidden(0, i, what, 1));
            }
            Due.same("how many, what " + what, 2, desk.hidden(0, NONE, what, 1));
        }
    }

    private static void hiddenEvenings() {
        Due.by("Promise 26", "IllegalArgumentException likewise (no such EVENING: 0 to TONIGHT).");
        SalePart desk = two();
        for (int tonight : new int[] {1, 2, 999}) {
            desk.evenings(tonight - desk.count(0));
            for (int k : Whole.far(-1, tonight + 1)) {
                for (int i : Whole.far(-2, -1, 0, 1, 2)) {
                    Due.isRefused("i " + i + " on EVENING " + k, () -> desk.hidden(0, i, 0, k));
                }
            }
            Due.same("how many on EVENING 0", 0, desk.hidden(0, NONE, 0, 0));
            Due.same("how many on EVENING 1", 2, desk.hidden(0, NONE, 0, 1));
            Due.same("how many TONIGHT", 2, desk.hidden(0, NONE, 0, tonight));
        }
    }

    private static void hiddenNumbers() {
        Due.by("Promise 26", "i NONE: how many. NoSuchElementException: there is none");
        SalePart desk = two();
        for (int what = 0; what <= 3; what++) {
            int of = what;
            for (int i : Whole.far(-3, -2, 2, 3, 199, 200)) {
                Due.isMissing("i " + i + ", what " + what, () -> desk.hidden(0, i, of, 1));
            }
            for (int i : Whole.far(-2, 0, 1)) {
                Due.isMissing("i " + i + ", what " + what + ", as known on EVENING 0", () -> desk.hidden(0, i, of, 0));
            }
            Due.same("how many as known on EVENING 0", 0, desk.hidden(0, NONE, what, 0));
        }
        desk.back(false, 0);
        Due.same("how many without the first", 1, desk.hidden(0, NONE, 0, 1));
        Due.same("the first then", 20, desk.hidden(0, 0, 0, 1));
        Due.isMissing("the second then", () -> desk.hidden(0, 1, 0, 1));
        desk.back(false, 2);
        Due.same("how many without the last", 0, desk.hidden(0, NONE, 0, 1));
        Due.isMissing("the first then", () -> desk.hidden(0, 0, 0, 1));
    }

    private static void hiddenBetween() {
        Due.by("Terms, HANDS", "HIDDEN: side by side, where it comes from another one than was told ahead.");
        for (int ahead = 2; ahead <= 4; ahead++) {
            for (int behind = 2; behind <= 4; behind++) {
                for (int from = 1; from <= 3; from++) {
                    SalePart desk = deskOfWork();
                    hand(desk, behind, from, 4, 20);
                    hand(desk, ahead, 1, 2, 10);
                    int with = ahead == 4 ? 1 : 2;
                    String kinds = "KIND " + ahead + " ahead of KIND " + behind + ", from " + from;
                    Due.same("how many, " + kinds, from == with ? 0 : 1, desk.hidden(0, NONE, 0, 0));
                    if (from != with) {
                        int[] due = {10, 20, with, from};
                        for (int what = 0; what <= 3; what++) {
                            Due.same("what " + what + ", " + kinds, due[what], desk.hidden(0, 0, what, 0));
                        }
                    }
                }
            }
        }
    }

    private static void hiddenByDaysAndNumbers() {
        Due.by("Terms, HANDS", "by DAYS, of like DAYS by number");
        SalePart desk = deskOfWork();
        hand(desk, 2, 1, 2, 36499);
        hand(desk, 2, 1, 2, 0);
        hand(desk, 2, 1, 2, 36499);
        hand(desk, 2, 2, 1, 0);
        // 0: 1 to 2 (FACT 1), 2 to 1 (FACT 3); 36499: 1 to 2 (FACT 0), 1 to 2 (FACT 2).
        Due.same("how many", 1, desk.hidden(0, NONE, 0, 0));
        int[] due = {36499, 36499, 2, 1};
        for (int what = 0; what <= 3; what++) {
            Due.same("what " + what, due[what], desk.hidden(0, 0, what, 0));
        }
        hand(desk, 2, 3, 1, 0);
        Due.same("how many with one more on the first DAY", 2, desk.hidden(0, NONE, 0, 0));
        Due.same("the first of them", 0, desk.hidden(0, 0, 1, 0));
        Due.same("from whom it comes there", 3, desk.hidden(0, 0, 3, 0));
        Due.same("the second of them", 36499, desk.hidden(0, 1, 0, 0));
    }

    private static void hiddenSeen() {
        Due.by("Terms, HANDS", "each tells from whom (SEEN: with whom) and with whom it is behind it.");
        SalePart desk = deskOfWork();
        hand(desk, 4, 1, 2, 10);
        hand(desk, 4, 1, 3, 11);
        Due.same("SEEN twice with one", 0, desk.hidden(0, NONE, 0, 0));
        hand(desk, 4, 2, 1, 12);
        Due.same("SEEN with another one", 1, desk.hidden(0, NONE, 0, 0));
        Due.same("with whom it was", 1, desk.hidden(0, 0, 2, 0));
        Due.same("from whom it comes", 2, desk.hidden(0, 0, 3, 0));
        hand(desk, 3, 2, 3, 13);
        Due.same("given by that one", 1, desk.hidden(0, NONE, 0, 0));
        hand(desk, 4, 3, 2, 14);
        Due.same("SEEN with who was given it", 1, desk.hidden(0, NONE, 0, 0));
    }

    /** Of three, each with another one, one is told on EVENING 1 or TAKEN BACK then. */
    private static void hiddenAsKnown() {
        Due.by("Terms, HANDS", "HANDS of a WORK: its SALES, GIFTS, SEEN, as known");
        for (int kind = 2; kind <= 4; kind++) {
            for (int one = 0; one <= 2; one++) {
                SalePart told = deskOfWork();
                SalePart back = deskOfWork();
                for (int i = 0; i <= 2; i++) {
                    hand(back, kind, i, 3 + i, 10 + i);
                    if (i != one) {
                        hand(told, kind, i, 3 + i, 10 + i);
                    }
                }
                told.evenings(1);
                back.evenings(1);
                hand(told, kind, one, 3 + one, 10 + one);
                back.back(false, one);
                String of = ", KIND " + kind + ", without " + one;
                hiddenWithout(told, -1, 1, "told" + of);
                hiddenWithout(told, one, 0, "not yet told" + of);
                hiddenWithout(back, -1, 0, "not yet TAKEN BACK" + of);
                hiddenWithout(back, one, 1, "TAKEN BACK" + of);
            }
        }
    }

    private static void hiddenWithout(SalePart desk, int without, int k, String told) {
        int ahead = NONE;
        int number = 0;
        for (int i = 0; i <= 2; i++) {
            if (i != without && ahead != NONE) {
                Due.same("the DAY ahead, " + told, 10 + ahead, desk.hidden(0, number, 0, k));
                Due.same("the DAY behind, " + told, 10 + i, desk.hidden(0, number, 1, k));
                Due.same("from whom it comes, " + told, i, desk.hidden(0, number, 3, k));
                number++;
            }
            ahead = i == without ? ahead : i;
        }
        Due.same("how many, " + told, number, desk.hidden(0, NONE, 0, k));
    }

    private static void hiddenAtMost() {
        Due.by("Promise 26", "of the i-th one (of all that 200 FACTS can tell)");
        SalePart desk = deskOfWork();
        for (int i = 0; i < 200; i++) {
            desk.fact(4, 0, i % 6, 0, 36000 - 100 * i);
        }
        Due.same("how many", 199, desk.hidden(0, NONE, 0, 0));
        for (int i : new int[] {0, 1, 100, 197, 198}) {
            int ahead = 199 - i;
            Due.same("the DAY ahead of " + i, 36000 - 100 * ahead, desk.hidden(0, i, 0, 0));
            Due.same("the DAY behind " + i, 36100 - 100 * ahead, desk.hidden(0, i, 1, 0));
            Due.same("with whom it was at " + i, ahead % 6, desk.hidden(0, i, 2, 0));
            Due.same("from whom it comes at " + i, (ahead - 1) % 6, desk.hidden(0, i, 3, 0));
        }
        Due.isMissing("the 200th", () -> desk.hidden(0, 199, 0, 0));
        for (int i = 0; i < 25; i++) {
            desk.feed(0, 0, 0, 0, 0);
        }
        Due.same("how many beside a full tape", 199, desk.hidden(0, NONE, 0, 0));
    }
}
