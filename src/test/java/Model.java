import java.util.ArrayList;
import java.util.Comparator;
import java.util.HashMap;
import java.util.List;
import java.util.Map;
import java.util.NoSuchElementException;
import java.util.TreeMap;

/** The document once more, as slowly and plainly as it can be told, to be held against SalePart. */
final class Model {
    private record Person(int land, int sort) {
    }

    private record Society(int land, int fee) {
    }

    private record Rate(int land, int day, int parts) {
    }

    private record Work(Map<Integer, Integer> weights, int edition, int marks, int width, int height) {
    }

    private record Claim(int person, int sale, int told) {
    }

    private record Fact(int number, int kind, int work, int one, int other, int day, int to, int p, int q, int land,
            int price, int how, int told) {
    }

    private record Law(int number, int land, int from, LawText text, int told) {
    }

    /** What one SALE comes to. */
    private static final class Outcome {
        long price;
        boolean counts;
        long part;
        long held;
        int law = -1;
        int since = 99999;
        int again;
        Map<Integer, Long> share = new TreeMap<>();
        Map<Integer, Integer> sure = new TreeMap<>();
        Map<Integer, Long> goes = new TreeMap<>();
        Map<Integer, Long> gets = new TreeMap<>();
        Map<Integer, Integer> society = new TreeMap<>();
    }

    private int lands = 0;
    private int tonight = 0;
    private final List<Person> persons = new ArrayList<>();
    private final List<Work> works = new ArrayList<>();
    private final List<Society> societies = new ArrayList<>();
    private final List<Rate> rates = new ArrayList<>();
    private final List<Fact> facts = new ArrayList<>();
    private final List<Law> laws = new ArrayList<>();
    private final List<Claim> claims = new ArrayList<>();
    private final Map<Integer, Integer> factsBack = new HashMap<>();
    private final Map<Integer, Integer> lawsBack = new HashMap<>();
    private final List<Integer> tape = new ArrayList<>();
    private int faultPlace = -1;
    private Map<Integer, Long> gains = new HashMap<>();

    int land() {
        return lands == 6 ? -1 : lands++;
    }

    boolean rate(int land, int day, int parts) {
        there(land, lands);
        if (rates.size() == 60 || badDay(day) || parts < 1 || parts > 99999) {
            return false;
        }
        return rates.add(new Rate(land, day, parts));
    }

    int person(int land, int sort) {
        there(land, lands);
        return persons.size() == 30 || sort < 0 || sort > 2 ? -1 : put(persons, new Person(land, sort));
    }

    int work(int artist, int weight, int edition, int marks, int width, int height) {
        there(artist, persons.size());
        if (works.size() == 30 || weight < 1 || weight > 9 || edition < 1 || edition > 99 || marks < 0
                || marks > 65535 || width < 1 || width > 999 || height < 1 || height > 999) {
            return -1;
        }
        Map<Integer, Integer> weights = new TreeMap<>();
        weights.put(artist, weight);
        return put(works, new Work(weights, edition, marks, width, height));
    }

    int joins(int work, int artist, int weight) {
        there(work, works.size());
        there(artist, persons.size());
        Map<Integer, Integer> weights = works.get(work).weights;
        boolean sold = facts.stream().anyMatch(f -> f.kind == 2 && f.work == work);
        if (weights.size() == 3 || weights.containsKey(artist) || weight < 1 || weight > 9 || sold) {
            return -1;
        }
        weights.put(artist, weight);
        return weights.size();
    }

    int society(int land, int fee) {
        there(land, lands);
        return societies.size() == 5 || fee < 0 || fee > 300 ? -1 : put(societies, new Society(land, fee));
    }

    int evenings(int n) {
        if (n < 0 || (long) tonight + n > 999) {
            throw new IllegalArgumentException();
        }
        return tonight += n;
    }

    int death(int person, int from, int to) {
        there(person, persons.size());
        if (facts.size() == 200 || badDay(from) || badDay(to) || to < from) {
            return -1;
        }
        return put(facts, new Fact(facts.size(), 0, -1, person, -1, from, to, 0, 0, -1, 0, 0, tonight));
    }

    int heir(int person, int heir, int p, int q) {
        there(person, persons.size());
        there(heir, persons.size());
        if (facts.size() == 200 || q < 1 || q > 12 || p < 1 || p > q || person == heir) {
            return -1;
        }
        // Fractions added by crosswise multiplication.
        long top = p;
        long bottom = q;
        for (Fact f : known(tonight)) {
            if (f.kind == 1 && f.one == person) {
                top = top * f.q + bottom * f.p;
                bottom *= f.q;
                long common = java.math.BigInteger.valueOf(top).gcd(java.math.BigInteger.valueOf(bottom)).longValue();
                top /= common;
                bottom /= common;
            }
        }
        if (top > bottom) {
            return -1;
        }
        return put(facts, new Fact(facts.size(), 1, -1, person, heir, -1, -1, p, q, -1, 0, 0, tonight));
    }

    int sale(int work, int seller, int buyer, int day, int land, int price, int how) {
        there(work, works.size());
        there(seller, persons.size());
        there(buyer, persons.size());
        there(land, lands);
        if (facts.size() == 200 || seller == buyer || badDay(day) || price < 1 || price > 20_000_000 || how < 0
                || how > 3) {
            return -1;
        }
        return put(facts, new Fact(facts.size(), 2, work, seller, buyer, day, -1, 0, 0, land, price, how, tonight));
    }

    int fact(int kind, int what, int one, int other, int day) {
        if (kind != 3 && kind != 4 && kind != 5) {
            throw new NoSuchElementException();
        }
        if (kind != 5) {
            there(what, works.size());
        }
        there(one, persons.size());
        if (kind != 4) {
            there(other, kind == 3 ? persons.size() : societies.size());
        }
        if (facts.size() == 200 || badDay(day) || kind == 3 && one == other) {
            return -1;
        }
        return put(facts, new Fact(facts.size(), kind, kind == 5 ? -1 : what, one, kind == 4 ? one : other, day, -1,
                0, 0, -1, 0, 0, tonight));
    }

    boolean back(boolean law, int number) {
        there(number, law ? laws.size() : facts.size());
        return (law ? lawsBack : factsBack).putIfAbsent(number, tonight) == null;
    }

    boolean claim(int person, int sale) {
        there(person, persons.size());
        saleAt(sale);
        if (claims.size() == 200 || claims.stream().anyMatch(c -> c.person == person && c.sale == sale)) {
            return false;
        }
        return claims.add(new Claim(person, sale, tonight));
    }

    int feed(int a, int b, int c, int d, int e) {
        if (tape.size() + 20 > 500) {
            return -1;
        }
        for (int number : new int[] {a, b, c, d, e}) {
            tape.add(number >>> 24);
            tape.add(number >>> 16 & 0xff);
            tape.add(number >>> 8 & 0xff);
            tape.add(number & 0xff);
        }
        return tape.size();
    }

    /** Null: it isn't read. */
    private LawText read(int land, int n, int from, boolean room) {
        there(land, lands);
        if (n < 0 || n > tape.size()) {
            throw new IllegalArgumentException();
        }
        StringBuilder text = new StringBuilder();
        tape.subList(0, n).forEach(b -> text.append((char) (int) b));
        tape.clear();
        faultPlace = -1;
        if (!room || badDay(from)) {
            return null;
        }
        LawText read = LawText.of(text.toString(), lands);
        faultPlace = read.place;
        return read;
    }

    int law(int land, int n, int from) {
        LawText text = read(land, n, from, laws.size() < 12);
        if (text == null) {
            return -9;
        }
        return text.fault != 0 ? -1 - text.fault : put(laws, new Law(laws.size(), land, from, text, tonight));
    }

    int fault() {
        return faultPlace;
    }

    int sold(int sale, int what, int k) {
        Fact sold = saleAt(sale);
        there(what, 8);
        evening(k);
        if (!known(k).contains(sold)) {
            return -1;
        }
        Outcome o = outcome(sold, k, null);
        return (int) switch (what) {
            case 0 -> o.price;
            case 1 -> o.counts ? 1 : 0;
            case 2 -> o.part;
            case 3 -> o.held;
            case 4 -> collector(sold.land);
            case 5 -> o.law;
            case 6 -> o.since;
            default -> o.again;
        };
    }

    int has(int sale, int person, int what, int k) {
        Fact sold = saleAt(sale);
        there(person, persons.size());
        there(what, 4);
        evening(k);
        if (!known(k).contains(sold)) {
            return 0;
        }
        Outcome o = outcome(sold, k, null);
        return (int) switch (what) {
            case 0 -> o.share.getOrDefault(person, 0L);
            case 1 -> (long) o.sure.getOrDefault(person, 0);
            case 2 -> o.goes.getOrDefault(person, 0L);
            default -> o.gets.getOrDefault(person, 0L);
        };
    }

    long gets(int person, int year, int k) {
        there(person, persons.size());
        there(year, 100);
        evening(k);
        return salesOf(year, k).stream().mapToLong(f -> outcome(f, k, null).gets.getOrDefault(person, 0L)).sum();
    }

    long owes(int one, int other, int year, int k) {
        there(one, societies.size());
        there(other, societies.size());
        there(year, 100);
        evening(k);
        return one == other ? 0 : owed(one, other, year, k);
    }

    private long owed(int one, int other, int year, int k) {
        long all = 0;
        for (Fact f : salesOf(year, k)) {
            if (collector(f.land) == one) {
                Outcome o = outcome(f, k, null);
                for (Map.Entry<Integer, Integer> e : o.society.entrySet()) {
                    all += e.getValue() == other ? o.goes.get(e.getKey()) : 0;
                }
            }
        }
        return all;
    }

    long net(int society, int year, int k) {
        there(society, societies.size());
        there(year, 100);
        evening(k);
        long net = 0;
        for (int other = 0; other < societies.size(); other++) {
            if (other != society) {
                net += owed(other, society, year, k) - owed(society, other, year, k);
            }
        }
        return net;
    }

    int payments(int year, int k) {
        there(year, 100);
        evening(k);
        List<Long> nets = new ArrayList<>();
        for (int i = 0; i < societies.size(); i++) {
            nets.add(net(i, year, k));
        }
        return fewest(nets, 0);
    }

    /** The first one that isn't even pays with, or is paid by, some other one, so that it is even. */
    private static int fewest(List<Long> nets, int first) {
        if (first == nets.size()) {
            return 0;
        }
        if (nets.get(first) == 0) {
            return fewest(nets, first + 1);
        }
        int best = 99;
        for (int i = first + 1; i < nets.size(); i++) {
            if (nets.get(i) != 0) {
                List<Long> then = new ArrayList<>(nets);
                then.set(i, nets.get(i) + nets.get(first));
                best = Math.min(best, 1 + fewest(then, first + 1));
            }
        }
        return best;
    }

    int again(int marks, int width, int height, int within) {
        if (within < 0) {
            throw new IllegalArgumentException();
        }
        int bits = 0;
        for (int i = 0; i < works.size(); i++) {
            Work w = works.get(i);
            boolean may = (marks | w.marks) == w.marks
                    && width <= (long) w.width + within && width >= (long) w.width - within
                    && height <= (long) w.height + within && height >= (long) w.height - within;
            bits += may ? 1 << i : 0;
        }
        return bits;
    }

    int with(int work, int day, int k) {
        there(work, works.size());
        there(day, 36500);
        evening(k);
        int with = -1;
        for (Fact hand : hands(work, k)) {
            with = hand.day <= day ? hand.other : with;
        }
        return with;
    }

    int hidden(int work, int i, int what, int k) {
        there(work, works.size());
        there(what, 4);
        evening(k);
        List<int[]> gaps = new ArrayList<>();
        Fact ahead = null;
        for (Fact hand : hands(work, k)) {
            if (ahead != null && ahead.other != hand.one) {
                gaps.add(new int[] {ahead.day, hand.day, ahead.other, hand.one});
            }
            ahead = hand;
        }
        if (i == -1) {
            return gaps.size();
        }
        there(i, gaps.size());
        return gaps.get(i)[what];
    }

    int attempt(int land, int n, int from) {
        LawText text = read(land, n, from, true);
        if (text == null) {
            return 9;
        }
        if (text.fault == 0) {
            Law tried = new Law(laws.size(), land, from, text, tonight);
            gains = new HashMap<>();
            for (Fact f : known(tonight)) {
                if (f.kind == 2 && f.land == land) {
                    outcome(f, tonight, tried).share.forEach((p, has) -> gains.merge(p, has, Long::sum));
                    outcome(f, tonight, null).share.forEach((p, has) -> gains.merge(p, -has, Long::sum));
                }
            }
        }
        return text.fault;
    }

    long more(int person) {
        there(person, persons.size());
        return gains.getOrDefault(person, 0L);
    }

    int count(int what) {
        there(what, 9);
        return new int[] {tonight, lands, persons.size(), works.size(), societies.size(), facts.size(), laws.size(),
            claims.size(), tape.size()}[what];
    }

    private static void there(int number, int many) {
        if (number < 0 || number >= many) {
            throw new NoSuchElementException();
        }
    }

    private Fact saleAt(int number) {
        there(number, facts.size());
        if (facts.get(number).kind != 2) {
            throw new NoSuchElementException();
        }
        return facts.get(number);
    }

    private void evening(int k) {
        if (k < 0 || k > tonight) {
            throw new IllegalArgumentException();
        }
    }

    private static boolean badDay(int day) {
        return day < 0 || day > 36499;
    }

    private static <T> int put(List<T> list, T one) {
        list.add(one);
        return list.size() - 1;
    }

    private List<Fact> known(int k) {
        return facts.stream().filter(f -> f.told <= k && factsBack.getOrDefault(f.number, 5000) > k).toList();
    }

    private List<Fact> hands(int work, int k) {
        return known(k).stream().filter(f -> f.kind >= 2 && f.kind <= 4 && f.work == work)
                .sorted(Comparator.comparingInt(Fact::day).thenComparingInt(Fact::number)).toList();
    }

    private List<Fact> salesOf(int year, int k) {
        return known(k).stream().filter(f -> f.kind == 2 && f.day >= 365 * year && f.day < 365 * (year + 1)).toList();
    }

    private int collector(int land) {
        for (int i = 0; i < societies.size(); i++) {
            if (societies.get(i).land == land) {
                return i;
            }
        }
        return -1;
    }

    private Law lawOf(Fact sale, int k, Law tried) {
        List<Law> may = new ArrayList<>(laws.stream()
                .filter(l -> l.told <= k && lawsBack.getOrDefault(l.number, 5000) > k).toList());
        if (tried != null) {
            may.add(tried);
        }
        return may.stream().filter(l -> l.land == sale.land && l.from <= sale.day)
                .max(Comparator.comparingInt(Law::from).thenComparingInt(Law::number)).orElse(null);
    }

    private Outcome outcome(Fact sale, int k, Law tried) {
        Outcome o = new Outcome();
        Work work = works.get(sale.work);
        int parts = 1000;
        int since = -1;
        for (Rate r : rates) {
            if (r.land == sale.land && r.day <= sale.day && r.day >= since) {
                since = r.day;
                parts = r.parts;
            }
        }
        o.price = (long) sale.price * parts / 1000;
        List<Fact> ahead = hands(sale.work, k).stream().filter(f -> f.day < sale.day).toList();
        Fact got = ahead.stream().filter(f -> f.kind != 4 && f.other == sale.one).reduce((a, b) -> b).orElse(null);
        o.since = got == null ? 99999 : sale.day - got.day;
        o.again = (int) ahead.stream().filter(f -> f.kind == 2 && f.day >= sale.day - 365).count();
        boolean byArtist = work.weights.containsKey(sale.one);
        Law law = lawOf(sale, k, tried);
        if (law == null) {
            return o;
        }
        o.law = law.number;
        LawText text = law.text;
        Map<String, Integer> values = Map.of("price", (int) o.price, "seller", persons.get(sale.one).sort, "buyer",
                persons.get(sale.other).sort, "how", sale.how, "artist", byArtist ? 1 : 0, "held", o.since, "from",
                got != null && work.weights.containsKey(got.one) ? 1 : 0, "again", o.again, "joint",
                work.weights.size(), "edition", work.edition);
        o.counts = o.price >= text.least && (text.due == null ? !byArtist : text.due.of(values) != 0);
        if (o.counts) {
            o.part = text.part(o.price);
            share(o, work, sale, law, k);
            goOn(o, sale, k);
            payOut(o, sale, law, k);
        }
        return o;
    }

    /** Null without a known DEATH. */
    private Fact death(int person, int k) {
        return known(k).stream().filter(f -> f.kind == 0 && f.one == person).reduce((a, b) -> b).orElse(null);
    }

    private void share(Outcome o, Work work, Fact sale, Law law, int k) {
        int all = work.weights.values().stream().mapToInt(w -> w).sum();
        work.weights.forEach((artist, weight) -> {
            int land = persons.get(artist).land;
            Fact death = death(artist, k);
            boolean agreed = land == sale.land || law.text.agrees.contains(land);
            boolean surely = death == null || sale.day < death.day + 365 * law.text.years;
            boolean perhaps = death == null || sale.day < death.to + 365 * law.text.years;
            if (agreed && perhaps) {
                o.sure.put(artist, surely ? 1 : 2);
                o.share.put(artist, o.part * weight / all);
            }
        });
    }

    private void goOn(Outcome o, Fact sale, int k) {
        o.goes.putAll(o.share);
        for (int round = 0; round < 8; round++) {
            Map<Integer, Long> next = new TreeMap<>();
            o.goes.forEach((person, has) -> {
                Fact death = death(person, k);
                if (death == null || death.to > sale.day) {
                    next.merge(person, has, Long::sum);
                    return;
                }
                long left = has;
                for (Fact f : known(k)) {
                    if (f.kind == 1 && f.one == person) {
                        next.merge(f.other, has * f.p / f.q, Long::sum);
                        left -= has * f.p / f.q;
                    }
                }
                o.held += left;
            });
            o.goes = next;
        }
        o.goes.entrySet().removeIf(e -> {
            Fact death = death(e.getKey(), k);
            boolean dead = death != null && death.to <= sale.day;
            o.held += dead ? e.getValue() : 0;
            return dead;
        });
    }

    private void payOut(Outcome o, Fact sale, Law law, int k) {
        o.goes.forEach((person, has) -> {
            Fact mandate = known(k).stream().filter(f -> f.kind == 5 && f.one == person && f.day <= sale.day)
                    .reduce((a, b) -> b).orElse(null);
            boolean claimed = claims.stream().anyMatch(c -> c.person == person && c.sale == sale.number
                    && c.told <= k && c.told <= sale.told + law.text.claim);
            if (mandate != null) {
                o.society.put(person, mandate.other);
                o.gets.put(person, has - has * societies.get(mandate.other).fee / 1000);
            } else if (claimed) {
                o.gets.put(person, has);
            } else {
                o.held += has;
            }
        });
    }
}
