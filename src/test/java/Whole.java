import java.util.ArrayList;
import java.util.Arrays;
import java.util.List;
import java.util.NoSuchElementException;

/** All that an object tells TONIGHT, as a row of answers: a refused call leaves each as it was. */
final class Whole {
    private static final int MOST_SALES = 3;

    private Whole() {
    }

    static List<Long> of(SalePart desk) {
        List<Long> all = new ArrayList<>();
        for (int what = 0; what <= 8; what++) {
            all.add((long) desk.count(what));
        }
        all.add((long) desk.fault());
        int tonight = desk.count(0);
        for (int p = 0; p < desk.count(2); p++) {
            all.add(desk.more(p));
            all.add(desk.gets(p, 0, tonight));
        }
        for (int w = 0; w < desk.count(3); w++) {
            all.add((long) desk.with(w, 36499, tonight));
            all.add((long) desk.hidden(w, SalePart.NONE, 0, tonight));
        }
        for (int s = 0; s < desk.count(4); s++) {
            all.add(desk.net(s, 0, tonight));
        }
        for (int i = 0; i < Math.min(MOST_SALES, desk.count(5)); i++) {
            addSale(all, desk, i);
        }
        return all;
    }

    private static void addSale(List<Long> all, SalePart desk, int sale) {
        try {
            for (int what = 0; what <= 7; what++) {
                all.add((long) desk.sold(sale, what, desk.count(0)));
            }
        } catch (NoSuchElementException e) {
            all.add(-99L);
        }
    }

    /** What calls that are refused leave: all as it was. */
    static void stays(SalePart desk, String calls, Runnable refused) {
        List<Long> ahead = of(desk);
        refused.run();
        List<Long> behind = of(desk);
        Due.yes(calls + " changed " + ahead + " to " + behind, ahead.equals(behind));
    }

    static int[] far(int... near) {
        int[] all = Arrays.copyOf(near, near.length + 2);
        all[near.length] = Integer.MIN_VALUE;
        all[near.length + 1] = Integer.MAX_VALUE;
        return all;
    }
}
