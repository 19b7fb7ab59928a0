import java.nio.charset.StandardCharsets;
import java.util.NoSuchElementException;
import java.util.Random;

/** All promises: runs of calls, drawn by fixed seeds, on SalePart and on the Model; each answer is to be the same. */
public final class ModelTest {
    private static final int RUNS = 3000;
    private static final int CALLS = 512;

    private final Random random;
    private final int seed;
    private final SalePart desk = new SalePart();
    private final Model model = new Model();
    private int calls = 0;
    /** Few DAYS in some runs, so that many are alike or a YEAR apart. */
    private final int[] days;
    private final int oddity;
    /** In some runs the LAWS are plain ones from early on, so that most SALES have a PART. */
    private final boolean plain;

    private ModelTest(int seed) {
        this.seed = seed;
        random = new Random(seed);
        oddity = new int[] {3, 12, 40}[seed / 4 % 3];
        days = new int[] {0, 1, 100, 464, 465, 466, 830, 831, 1195, 1196, 2000, 2365, 10000, 25550, 25650, 36499};
        plain = seed % 5 < 3;
        if (seed % 2 == 0) {
            for (int i = 0; i < days.length; i++) {
                days[i] = random.nextInt(seed % 4 == 0 ? 1500 : 36500);
            }
        }
    }

    public static void main(String[] args) {
        int runs = args.length > 0 ? Integer.parseInt(args[0]) : RUNS;
        for (int seed = 1; seed <= runs; seed++) {
            new ModelTest(seed).run();
        }
        Due.end();
    }

    private void run() {
        build();
        for (int i = 0; i < model.count(1) && plain; i++) {
            read(new TextMaker(random, oddity).plainLaw(model.count(1)), i, random.nextInt(200), true);
        }
        while (calls < CALLS) {
            int draw = random.nextInt(100);
            if (draw < 3) {
                thing();
            } else if (draw < 40) {
                told();
            } else if (draw < 48) {
                text();
            } else {
                asked();
            }
        }
    }

    private void build() {
        int lands = 1 + random.nextInt(4);
        for (int i = 0; i < lands; i++) {
            same("land()", desk::land, model::land);
        }
        for (int i = 0; i < 3 + random.nextInt(10); i++) {
            person(random.nextInt(lands), random.nextInt(3));
        }
        for (int i = 0; i < 1 + random.nextInt(4); i++) {
            work();
        }
        for (int i = 0; i < random.nextInt(6); i++) {
            joins();
        }
        for (int i = 0; i < random.nextInt(6); i++) {
            society(random.nextInt(lands));
        }
    }

    /** A number of something there are so many of; now and then another one. */
    private int of(int what) {
        int many = model.count(what);
        return odd() ? random.nextInt(many + 3) - 1 : random.nextInt(Math.max(1, many));
    }

    /** A PERSON; in plain runs mostly one of the first, who so are ARTISTS, DEAD, HEIRS and asked for more often. */
    private int someone() {
        return plain && random.nextInt(4) > 0 ? random.nextInt(3) : of(2);
    }

    private boolean odd() {
        return random.nextInt(oddity * 10) == 0;
    }

    private int from(int least, int most) {
        if (odd()) {
            int[] far = {Integer.MIN_VALUE, Integer.MAX_VALUE, least - 1, most + 1};
            return far[random.nextInt(4)];
        }
        int draw = random.nextInt(10);
        return draw == 0 ? least : draw == 1 ? most : least + random.nextInt(most - least + 1);
    }

    private int day() {
        return odd() ? from(0, 36499) : days[random.nextInt(days.length)];
    }

    private int evening() {
        int tonight = model.count(0);
        if (odd()) {
            int[] none = {tonight + 1, -1, Integer.MAX_VALUE, Integer.MIN_VALUE};
            return none[random.nextInt(4)];
        }
        return random.nextInt(4) == 0 ? random.nextInt(tonight + 1) : tonight;
    }

    private int saleNumber() {
        for (int i = 0; i < 8; i++) {
            int number = of(5);
            try {
                model.sold(number, 0, 0);
                return number;
            } catch (NoSuchElementException e) {
                continue;
            }
        }
        return of(5);
    }

    private void thing() {
        switch (random.nextInt(7)) {
            case 0 -> same("land()", desk::land, model::land);
            case 1 -> person(of(1), from(0, 2));
            case 2 -> work();
            case 3 -> joins();
            case 4 -> society(of(1));
            default -> {
                int n = odd() ? from(0, 999) : random.nextInt(40);
                same("evenings(" + n + ")", () -> desk.evenings(n), () -> model.evenings(n));
            }
        }
    }

    private void person(int land, int sort) {
        same("person(" + land + ", " + sort + ")", () -> desk.person(land, sort), () -> model.person(land, sort));
    }

    private void work() {
        int[] a = {someone(), from(1, 9), from(1, 99), from(0, 65535), from(1, 999), from(1, 999)};
        same("work" + told(a), () -> desk.work(a[0], a[1], a[2], a[3], a[4], a[5]),
                () -> model.work(a[0], a[1], a[2], a[3], a[4], a[5]));
    }

    private void joins() {
        int[] a = {of(3), of(2), from(1, 9)};
        same("joins" + told(a), () -> desk.joins(a[0], a[1], a[2]), () -> model.joins(a[0], a[1], a[2]));
    }

    private void society(int land) {
        int fee = from(0, 300);
        same("society(" + land + ", " + fee + ")", () -> desk.society(land, fee), () -> model.society(land, fee));
    }

    private void told() {
        int draw = random.nextInt(20);
        if (draw < 6) {
            int[] a = {of(3), of(2), of(2), day(), of(1), price(), from(0, 3)};
            same("sale" + told(a), () -> desk.sale(a[0], a[1], a[2], a[3], a[4], a[5], a[6]),
                    () -> model.sale(a[0], a[1], a[2], a[3], a[4], a[5], a[6]));
        } else if (draw < 11) {
            int kind = odd() ? random.nextInt(8) - 1 : 3 + random.nextInt(3);
            int[] a = {kind, of(3), kind == 5 ? someone() : of(2), kind == 5 ? of(4) : of(2), day()};
            same("fact" + told(a), () -> desk.fact(a[0], a[1], a[2], a[3], a[4]),
                    () -> model.fact(a[0], a[1], a[2], a[3], a[4]));
        } else if (draw < 13) {
            int from = plain ? random.nextInt(600) : day();
            int[] a = {someone(), from, random.nextInt(3) == 0 ? day() : from + random.nextInt(800)};
            same("death" + told(a), () -> desk.death(a[0], a[1], a[2]), () -> model.death(a[0], a[1], a[2]));
        } else if (draw < 16) {
            int q = from(1, 12);
            int[] a = {someone(), of(2), random.nextInt(3) == 0 ? q : from(1, 12), q};
            same("heir" + told(a), () -> desk.heir(a[0], a[1], a[2], a[3]),
                    () -> model.heir(a[0], a[1], a[2], a[3]));
        } else if (draw < 17) {
            boolean law = random.nextInt(4) == 0;
            int number = of(law ? 6 : 5);
            same("back(" + law + ", " + number + ")", () -> desk.back(law, number) ? 1 : 0,
                    () -> model.back(law, number) ? 1 : 0);
        } else if (draw < 19) {
            int[] a = {someone(), saleNumber()};
            same("claim" + told(a), () -> desk.claim(a[0], a[1]) ? 1 : 0, () -> model.claim(a[0], a[1]) ? 1 : 0);
        } else {
            int[] a = {of(1), day(), random.nextInt(3) == 0 ? from(1, 99999) : 500 + random.nextInt(1000)};
            same("rate" + told(a), () -> desk.rate(a[0], a[1], a[2]) ? 1 : 0,
                    () -> model.rate(a[0], a[1], a[2]) ? 1 : 0);
        }
    }

    private int price() {
        return random.nextBoolean() ? from(1, 20000000) : 1 + random.nextInt(10000);
    }

    private void text() {
        TextMaker maker = new TextMaker(random, oddity);
        boolean easy = plain && random.nextInt(4) > 0;
        String text = easy ? maker.plainLaw(model.count(1)) : maker.law(model.count(1));
        read(text, of(1), day(), random.nextInt(3) > 0);
    }

    private void read(String text, int land, int from, boolean law) {
        byte[] bytes = text.getBytes(StandardCharsets.ISO_8859_1);
        for (int[] f : Texts.fives(bytes)) {
            same("feed" + told(f), () -> desk.feed(f[0], f[1], f[2], f[3], f[4]),
                    () -> model.feed(f[0], f[1], f[2], f[3], f[4]));
        }
        int n = odd() ? from(0, 520) : Math.min(bytes.length, model.count(8));
        int[] a = {land, n, from};
        if (law) {
            same("law" + told(a) + " " + text, () -> desk.law(a[0], a[1], a[2]),
                    () -> model.law(a[0], a[1], a[2]));
        } else {
            same("attempt" + told(a) + " " + text, () -> desk.attempt(a[0], a[1], a[2]),
                    () -> model.attempt(a[0], a[1], a[2]));
            for (int p = 0; p < model.count(2); p++) {
                more(p);
            }
        }
        same("fault()", desk::fault, model::fault);
    }

    private void more(int person) {
        same("more(" + person + ")", () -> desk.more(person), () -> model.more(person));
    }

    private void asked() {
        int year = odd() ? from(0, 99) : days[random.nextInt(plain ? 6 : days.length)] / 365;
        int k = evening();
        int draw = random.nextInt(24);
        if (draw < 7) {
            int[] a = {saleNumber(), from(0, 7), k};
            same("sold" + told(a), () -> desk.sold(a[0], a[1], a[2]), () -> model.sold(a[0], a[1], a[2]));
        } else if (draw < 15) {
            int[] a = {saleNumber(), someone(), from(0, 3), k};
            same("has" + told(a), () -> desk.has(a[0], a[1], a[2], a[3]), () -> model.has(a[0], a[1], a[2], a[3]));
        } else if (draw < 16) {
            int[] a = {someone(), year, k};
            same("gets" + told(a), () -> desk.gets(a[0], a[1], a[2]), () -> model.gets(a[0], a[1], a[2]));
        } else if (draw < 17) {
            int[] a = {of(4), of(4), year, k};
            same("owes" + told(a), () -> desk.owes(a[0], a[1], a[2], a[3]),
                    () -> model.owes(a[0], a[1], a[2], a[3]));
        } else if (draw < 18) {
            int[] a = {of(4), year, k};
            same("net" + told(a), () -> desk.net(a[0], a[1], a[2]), () -> model.net(a[0], a[1], a[2]));
        } else if (draw < 19) {
            same("payments(" + year + ", " + k + ")", () -> desk.payments(year, k), () -> model.payments(year, k));
        } else if (draw < 20) {
            int[] a = {random.nextInt(65536) & random.nextInt(65536) & random.nextInt(65536), from(1, 999),
                from(1, 999), random.nextInt(4) == 0 ? from(0, 999) : 400 + random.nextInt(600)};
            same("again" + told(a), () -> desk.again(a[0], a[1], a[2], a[3]),
                    () -> model.again(a[0], a[1], a[2], a[3]));
        } else if (draw < 21) {
            int[] a = {of(3), day(), k};
            same("with" + told(a), () -> desk.with(a[0], a[1], a[2]), () -> model.with(a[0], a[1], a[2]));
        } else if (draw < 23) {
            int i = random.nextInt(8) == 0 ? from(-3, 200) : random.nextInt(6) - 1;
            int[] a = {of(3), i, from(0, 3), k};
            same("hidden" + told(a), () -> desk.hidden(a[0], a[1], a[2], a[3]),
                    () -> model.hidden(a[0], a[1], a[2], a[3]));
        } else {
            int what = from(0, 8);
            same("count(" + what + ")", () -> desk.count(what), () -> model.count(what));
            more(of(2));
        }
    }

    private static String told(int[] numbers) {
        return java.util.Arrays.toString(numbers).replace('[', '(').replace(']', ')');
    }

    private void same(String call, Due.Call real, Due.Call due) {
        if (calls == CALLS) {
            // What an object answers behind its last call is free.
            return;
        }
        calls++;
        String want = answer(due);
        String got = answer(real);
        Due.same("run " + seed + ", call " + calls + ", " + call + ": " + got + " where " + want, 1,
                want.equals(got) ? 1 : 0);
    }

    private static String answer(Due.Call call) {
        try {
            return Long.toString(call.answer());
        } catch (NoSuchElementException | IllegalArgumentException e) {
            return e.getClass().getSimpleName();
        }
    }
}
