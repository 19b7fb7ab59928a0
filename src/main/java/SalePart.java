import java.util.NoSuchElementException;

/**
 * A part of each sale of a work for its painters and those who come after them, by each land's law, as it
 * was known on any evening. The words in capitals are those of the document.
 */
public final class SalePart {
    public static final int NONE = -1;

    private static final int MOST_LANDS = 6;
    private static final int MOST_PERSONS = 30;
    private static final int MOST_WORKS = 30;
    private static final int MOST_SOCIETIES = 5;
    private static final int MOST_RATES = 60;
    private static final int MOST_FACTS = 200;
    private static final int MOST_CLAIMS = 200;
    private static final int MOST_LAWS = 12;
    private static final int MOST_BYTES = 500;
    private static final int MOST_ARTISTS = 3;

    private static final int LAST_DAY = 36499;
    private static final int LAST_YEAR = 99;
    private static final int LAST_EVENING = 999;
    private static final int DAYS_A_YEAR = 365;
    /** Behind every DAY and every EVENING, also behind the longest 'years'. */
    private static final int NEVER = 1000000;

    private static final int DEATH = 0;
    private static final int HEIR = 1;
    private static final int SALE = 2;
    private static final int GIFT = 3;
    private static final int SEEN = 4;
    private static final int MANDATE = 5;
    /** No KIND of the document: CLAIMS are held in rows of the same form. */
    private static final int CLAIM = 6;

    private static final int BYTES_A_FEED = 20;
    private static final int NOT_AS_TOLD = 9;
    /** All q from 1 to 12 divide it. */
    private static final int WHOLE = 27720;

    private final Books books = new Books();
    private final Account account = new Account(books);
    private final Clearing clearing = new Clearing(books, account);
    private final Reader reader = new Reader();
    private final int[] tape = new int[MOST_BYTES];
    private int tapeLength = 0;
    private int faultPlace = NONE;
    private Law draft = new Law();
    private final long[] gains = new long[MOST_PERSONS];

    public SalePart() {
    }

    public int land() {
        if (books.lands >= MOST_LANDS) {
            return NONE;
        }
        books.lands++;
        return books.lands - 1;
    }

    public boolean rate(int land, int day, int parts) throws NoSuchElementException {
        needLand(land);
        if (books.rateCount >= MOST_RATES || !isDay(day) || !isWithin(parts, 1, 99999)) {
            return false;
        }
        books.rates[books.rateCount] = new Rate(land, day, parts);
        books.rateCount++;
        return true;
    }

    public int person(int land, int sort) throws NoSuchElementException {
        needLand(land);
        if (books.personCount >= MOST_PERSONS || !isWithin(sort, 0, 2)) {
            return NONE;
        }
        books.persons[books.personCount] = new Person(land, sort);
        books.personCount++;
        return books.personCount - 1;
    }

    public int work(int artist, int weight, int edition, int marks, int width, int height)
            throws NoSuchElementException {
        needPerson(artist);
        boolean asTold = isWithin(weight, 1, 9) && isWithin(edition, 1, 99) && isWithin(marks, 0, 65535)
                && isWithin(width, 1, 999) && isWithin(height, 1, 999);
        if (books.workCount >= MOST_WORKS || !asTold) {
            return NONE;
        }
        Work made = new Work(edition, marks, width, height);
        made.addArtist(artist, weight);
        books.works[books.workCount] = made;
        books.workCount++;
        return books.workCount - 1;
    }

    public int joins(int work, int artist, int weight) throws NoSuchElementException {
        needWork(work);
        needPerson(artist);
        Work joined = books.workAt(work);
        boolean may = joined.artistCount < MOST_ARTISTS && !joined.isBy(artist) && !books.wasEverSold(work);
        if (!may || !isWithin(weight, 1, 9)) {
            return NONE;
        }
        joined.addArtist(artist, weight);
        return joined.artistCount;
    }

    public int society(int land, int fee) throws NoSuchElementException {
        needLand(land);
        if (books.societyCount >= MOST_SOCIETIES || !isWithin(fee, 0, 300)) {
            return NONE;
        }
        books.societies[books.societyCount] = new Society(land, fee);
        books.societyCount++;
        return books.societyCount - 1;
    }

    public int evenings(int n) throws IllegalArgumentException {
        if (n < 0 || n > LAST_EVENING - books.tonight) {
            throw new IllegalArgumentException("so many EVENINGS can't go by");
        }
        books.tonight += n;
        return books.tonight;
    }

    public int death(int person, int from, int to) throws NoSuchElementException {
        needPerson(person);
        if (books.hasAllFacts() || !isDay(from) || !isDay(to) || to < from) {
            return NONE;
        }
        Fact death = new Fact(DEATH, NONE, person, NONE, from, books.tonight);
        death.lastDay = to;
        return books.addFact(death);
    }

    public int heir(int person, int heir, int p, int q) throws NoSuchElementException {
        needPerson(person);
        needPerson(heir);
        if (books.hasAllFacts() || person == heir || !isWithin(q, 1, 12) || !isWithin(p, 1, q)) {
            return NONE;
        }
        if (books.inheritedOf(person) + twelfths(p, q) > WHOLE) {
            return NONE;
        }
        Fact right = new Fact(HEIR, NONE, person, heir, NONE, books.tonight);
        right.p = p;
        right.q = q;
        return books.addFact(right);
    }

    public int sale(int work, int seller, int buyer, int day, int land, int price, int how)
            throws NoSuchElementException {
        needWork(work);
        needPerson(seller);
        needPerson(buyer);
        needLand(land);
        boolean asTold = seller != buyer && isDay(day) && isWithin(price, 1, 20000000) && isWithin(how, 0, 3);
        if (books.hasAllFacts() || !asTold) {
            return NONE;
        }
        Fact sale = new Fact(SALE, work, seller, buyer, day, books.tonight);
        sale.land = land;
        sale.price = price;
        sale.how = how;
        return books.addFact(sale);
    }

    public int fact(int kind, int what, int one, int other, int day) throws NoSuchElementException {
        if (!isWithin(kind, GIFT, MANDATE)) {
            throw new NoSuchElementException("no such kind");
        }
        needPerson(one);
        if (kind == MANDATE) {
            needSociety(other);
        } else {
            needWork(what);
        }
        if (kind == GIFT) {
            needPerson(other);
        }
        if (books.hasAllFacts() || !isDay(day) || kind == GIFT && one == other) {
            return NONE;
        }
        // A WORK that is SEEN comes from the one with whom it is, and stays there.
        int behind = kind == SEEN ? one : other;
        int about = kind == MANDATE ? NONE : what;
        return books.addFact(new Fact(kind, about, one, behind, day, books.tonight));
    }

    public boolean back(boolean law, int number) throws NoSuchElementException {
        if (!isWithin(number, 0, (law ? books.lawCount : books.factCount) - 1)) {
            throw new NoSuchElementException("no such FACT or LAW");
        }
        Told told = law ? books.lawAt(number) : books.factAt(number);
        if (told.takenBack != NEVER) {
            return false;
        }
        told.takenBack = books.tonight;
        return true;
    }

    public boolean claim(int person, int sale) throws NoSuchElementException {
        needPerson(person);
        needSale(sale);
        if (books.claimCount >= MOST_CLAIMS || books.claimOf(person, sale) != NONE) {
            return false;
        }
        books.claims[books.claimCount] = new Fact(CLAIM, sale, person, NONE, NONE, books.tonight);
        books.claimCount++;
        return true;
    }

    public int feed(int a, int b, int c, int d, int e) {
        if (tapeLength > MOST_BYTES - BYTES_A_FEED) {
            return NONE;
        }
        putBytes(a);
        putBytes(b);
        putBytes(c);
        putBytes(d);
        putBytes(e);
        return tapeLength;
    }

    public int law(int land, int n, int from) throws NoSuchElementException, IllegalArgumentException {
        int fault = readTape(land, n, from, books.lawCount < MOST_LAWS);
        if (fault == NOT_AS_TOLD) {
            return -NOT_AS_TOLD;
        }
        if (fault != 0) {
            return -1 - fault;
        }
        draft.told = books.tonight;
        books.laws[books.lawCount] = draft;
        books.lawCount++;
        draft = new Law();
        return books.lawCount - 1;
    }

    public int fault() {
        return faultPlace;
    }

    public int sold(int sale, int what, int k) throws NoSuchElementException, IllegalArgumentException {
        needSale(sale);
        needWhat(what, 7);
        needEvening(k);
        Fact sold = books.factAt(sale);
        if (!sold.isKnownOn(k)) {
            return NONE;
        }
        account.open(k);
        account.settle(sold, sale);
        switch (what) {
            case 0:
                return account.price;
            case 1:
                return account.counts ? 1 : 0;
            case 2:
                return account.part;
            case 3:
                return account.heldBack;
            case 4:
                return books.collectorIn(sold.land);
            case 5:
                return books.lawFor(sold.land, sold.day, k);
            case 6:
                return account.daysHeld;
            default:
                return account.soldAgain;
        }
    }

    public int has(int sale, int person, int what, int k) throws NoSuchElementException, IllegalArgumentException {
        needSale(sale);
        needPerson(person);
        needWhat(what, 3);
        needEvening(k);
        Fact sold = books.factAt(sale);
        if (!sold.isKnownOn(k)) {
            return 0;
        }
        account.open(k);
        account.settle(sold, sale);
        switch (what) {
            case 0:
                return account.share[person];
            case 1:
                return account.status[person];
            case 2:
                return account.goes[person];
            default:
                return account.gotten[person];
        }
    }

    public long gets(int person, int year, int k) throws NoSuchElementException, IllegalArgumentException {
        needPerson(person);
        needYear(year);
        needEvening(k);
        account.open(k);
        long all = 0;
        for (int i = 0; i < books.factCount; i++) {
            Fact sold = books.factAt(i);
            if (sold.isSaleOf(year) && sold.isKnownOn(k)) {
                account.settle(sold, i);
                all += account.gotten[person];
            }
        }
        return all;
    }

    public long owes(int one, int other, int year, int k) throws NoSuchElementException, IllegalArgumentException {
        needSociety(one);
        needSociety(other);
        needYear(year);
        needEvening(k);
        clearing.clear(year, k);
        return clearing.owed(one, other);
    }

    public long net(int society, int year, int k) throws NoSuchElementException, IllegalArgumentException {
        needSociety(society);
        needYear(year);
        needEvening(k);
        clearing.clear(year, k);
        return clearing.netOf(society);
    }

    public int payments(int year, int k) throws NoSuchElementException, IllegalArgumentException {
        needYear(year);
        needEvening(k);
        clearing.clear(year, k);
        return clearing.fewestPayments();
    }

    public int again(int marks, int width, int height, int within) throws IllegalArgumentException {
        if (within < 0) {
            throw new IllegalArgumentException("within is below 0");
        }
        int bits = 0;
        for (int i = 0; i < books.workCount; i++) {
            if (books.workAt(i).mayBe(marks, width, height, within)) {
                bits |= 1 << i;
            }
        }
        return bits;
    }

    public int with(int work, int day, int k) throws NoSuchElementException, IllegalArgumentException {
        needWork(work);
        if (!isDay(day)) {
            throw new NoSuchElementException("no such DAY");
        }
        needEvening(k);
        int last = NONE;
        for (int i = 0; i < books.factCount; i++) {
            Fact hand = books.factAt(i);
            boolean counts = hand.isHandOf(work) && hand.isKnownOn(k) && hand.day <= day;
            if (counts && hand.day >= books.factAt(last).day) {
                last = i;
            }
        }
        return books.factAt(last).other;
    }

    public int hidden(int work, int i, int what, int k) throws NoSuchElementException, IllegalArgumentException {
        needWork(work);
        needWhat(what, 3);
        // Whether there is an i-th one, be i below NONE or too high, can be said only of what is known on an EVENING.
        needEvening(k);
        int found = 0;
        int ahead = books.handBehind(work, NONE, k);
        for (int n = 0; n < MOST_FACTS && ahead != NONE; n++) {
            int behind = books.handBehind(work, ahead, k);
            if (behind != NONE && books.factAt(behind).one != books.factAt(ahead).other) {
                if (found == i) {
                    return tellHidden(books.factAt(ahead), books.factAt(behind), what);
                }
                found++;
            }
            ahead = behind;
        }
        if (i != NONE) {
            throw new NoSuchElementException("there is none HIDDEN of that number");
        }
        return found;
    }

    public int attempt(int land, int n, int from) throws NoSuchElementException, IllegalArgumentException {
        int fault = readTape(land, n, from, true);
        if (fault == 0) {
            tryDraft();
        }
        return fault;
    }

    public long more(int person) throws NoSuchElementException {
        needPerson(person);
        return gains[person];
    }

    public int count(int what) throws NoSuchElementException {
        needWhat(what, 8);
        switch (what) {
            case 0:
                return books.tonight;
            case 1:
                return books.lands;
            case 2:
                return books.personCount;
            case 3:
                return books.workCount;
            case 4:
                return books.societyCount;
            case 5:
                return books.factCount;
            case 6:
                return books.lawCount;
            case 7:
                return books.claimCount;
            default:
                return tapeLength;
        }
    }

    private void needLand(int land) {
        if (!isWithin(land, 0, books.lands - 1)) {
            throw new NoSuchElementException("no such LAND");
        }
    }

    private void needPerson(int person) {
        if (!isWithin(person, 0, books.personCount - 1)) {
            throw new NoSuchElementException("no such PERSON");
        }
    }

    private void needWork(int work) {
        if (!isWithin(work, 0, books.workCount - 1)) {
            throw new NoSuchElementException("no such WORK");
        }
    }

    private void needSociety(int society) {
        if (!isWithin(society, 0, books.societyCount - 1)) {
            throw new NoSuchElementException("no such society");
        }
    }

    private void needSale(int number) {
        if (books.factAt(number).kind != SALE) {
            throw new NoSuchElementException("no such SALE");
        }
    }

    private void needWhat(int what, int last) {
        if (!isWithin(what, 0, last)) {
            throw new NoSuchElementException("no such what");
        }
    }

    private void needYear(int year) {
        if (!isWithin(year, 0, LAST_YEAR)) {
            throw new NoSuchElementException("no such YEAR");
        }
    }

    private void needEvening(int k) {
        if (!isWithin(k, 0, books.tonight)) {
            throw new IllegalArgumentException("no such EVENING");
        }
    }

    private static boolean isWithin(int number, int least, int most) {
        return number >= least && number <= most;
    }

    private static boolean isDay(int day) {
        return isWithin(day, 0, LAST_DAY);
    }

    /** p of q in parts of WHOLE, without a rest for every q from 1 to 12. */
    private static int twelfths(int p, int q) {
        return q < 1 ? 0 : WHOLE / q * p;
    }

    private void putBytes(int number) {
        for (int shift = 24; shift >= 0 && tapeLength < tape.length; shift -= 8) {
            tape[tapeLength] = number >> shift & 255;
            tapeLength++;
        }
    }

    /** Reads the tape into the draft and empties it: the FAULT, 0 without, or NOT_AS_TOLD, if it isn't read. */
    private int readTape(int land, int n, int from, boolean room) {
        needLand(land);
        if (n < 0 || n > tapeLength) {
            throw new IllegalArgumentException("the tape has not so many bytes");
        }
        tapeLength = 0;
        faultPlace = NONE;
        if (!room || !isDay(from)) {
            return NOT_AS_TOLD;
        }
        int fault = reader.read(tape, n, books.lands, draft);
        faultPlace = reader.faultPlace;
        draft.land = land;
        draft.from = from;
        return fault;
    }

    private static int tellHidden(Fact ahead, Fact behind, int what) {
        switch (what) {
            case 0:
                return ahead.day;
            case 1:
                return behind.day;
            case 2:
                return ahead.other;
            default:
                return behind.one;
        }
    }

    /** How much more each PERSON's would be as an ARTIST, were the draft the LAW told last of all. */
    private void tryDraft() {
        account.open(books.tonight);
        for (int p = 0; p < gains.length; p++) {
            gains[p] = 0;
        }
        for (int i = 0; i < books.factCount; i++) {
            Fact sold = books.factAt(i);
            boolean touched = sold.kind == SALE && sold.land == draft.land && sold.isKnownOn(books.tonight);
            Law law = books.lawAt(books.lawFor(sold.land, sold.day, books.tonight));
            if (touched && draft.from <= sold.day && draft.from >= law.from) {
                account.look(sold);
                account.apply(law);
                addShares(-1);
                account.apply(draft);
                addShares(1);
            }
        }
    }

    private void addShares(int times) {
        for (int p = 0; p < gains.length; p++) {
            gains[p] += (long) times * account.share[p];
        }
    }

    /** What is told on an EVENING and may be TAKEN BACK on one. */
    private abstract static class Told {
        int told = NEVER;
        int takenBack = NEVER;

        boolean isKnownOn(int k) {
            return told <= k && k < takenBack;
        }
    }

    private static final class Person {
        final int land;
        final int sort;

        Person(int land, int sort) {
            this.land = land;
            this.sort = sort;
        }
    }

    private static final class Society {
        final int land;
        final int fee;

        Society(int land, int fee) {
            this.land = land;
            this.fee = fee;
        }
    }

    private static final class Rate {
        final int land;
        final int from;
        final int parts;

        Rate(int land, int from, int parts) {
            this.land = land;
            this.from = from;
            this.parts = parts;
        }
    }

    private static final class Work {
        final int edition;
        private final int marks;
        private final int width;
        private final int height;
        private final int[] artists = new int[MOST_ARTISTS];
        private final int[] weights = new int[MOST_ARTISTS];
        int artistCount = 0;
        int weightOfAll = 0;

        Work(int edition, int marks, int width, int height) {
            this.edition = edition;
            this.marks = marks;
            this.width = width;
            this.height = height;
        }

        void addArtist(int artist, int weight) {
            if (artistCount < artists.length) {
                artists[artistCount] = artist;
                weights[artistCount] = weight;
                artistCount++;
                weightOfAll += weight;
            }
        }

        /** 0: that PERSON is none of the ARTISTS. */
        int weightOf(int person) {
            for (int i = 0; i < artistCount && i < artists.length; i++) {
                if (artists[i] == person) {
                    return weights[i];
                }
            }
            return 0;
        }

        boolean isBy(int person) {
            return weightOf(person) != 0;
        }

        boolean mayBe(int entryMarks, int entryWidth, int entryHeight, int within) {
            return (entryMarks & ~marks) == 0 && Math.abs((long) entryWidth - width) <= within
                    && Math.abs((long) entryHeight - height) <= within;
        }
    }

    /** A FACT of any kind, or a CLAIM; what a kind doesn't tell is NONE or 0. */
    private static final class Fact extends Told {
        final int kind;
        /** The WORK of a SALE, GIFT or SEEN; the SALE of a CLAIM. */
        final int what;
        /** Who died, left, sold, gave, has the WORK, mandates or claims. */
        final int one;
        /** Who inherits, bought, was given, has the WORK; the society of a MANDATE. */
        final int other;
        /** Of a DEATH the first. */
        final int day;
        int lastDay = NONE;
        int p = 0;
        int q = 1;
        int land = NONE;
        int price = 0;
        int how = 0;

        Fact(int kind, int what, int one, int other, int day, int told) {
            this.kind = kind;
            this.what = what;
            this.one = one;
            this.other = other;
            this.day = day;
            this.told = told;
        }

        boolean isHandOf(int work) {
            return what == work && (kind == SALE || kind == GIFT || kind == SEEN);
        }

        boolean isSaleOf(int year) {
            return kind == SALE && day / DAYS_A_YEAR == year;
        }
    }

    /**
     * All that was told, with what can be looked up in it. A number that there isn't finds a blank row, never
     * null: each array has one row more than may be told, and is blank where nothing was told.
     */
    private static final class Books {
        int tonight = 0;
        int lands = 0;
        final Person[] persons = new Person[MOST_PERSONS + 1];
        int personCount = 0;
        final Work[] works = new Work[MOST_WORKS + 1];
        int workCount = 0;
        final Society[] societies = new Society[MOST_SOCIETIES + 1];
        int societyCount = 0;
        final Rate[] rates = new Rate[MOST_RATES + 1];
        int rateCount = 0;
        final Fact[] facts = new Fact[MOST_FACTS + 1];
        int factCount = 0;
        final Fact[] claims = new Fact[MOST_CLAIMS + 1];
        int claimCount = 0;
        final Law[] laws = new Law[MOST_LAWS + 1];
        int lawCount = 0;

        Books() {
            Person noPerson = new Person(NONE, NONE);
            for (int i = 0; i < persons.length; i++) {
                persons[i] = noPerson;
            }
            Work noWork = new Work(0, 0, 0, 0);
            for (int i = 0; i < works.length; i++) {
                works[i] = noWork;
            }
            Society noSociety = new Society(NONE, 0);
            for (int i = 0; i < societies.length; i++) {
                societies[i] = noSociety;
            }
            Rate noRate = new Rate(NONE, NONE, 1000);
            for (int i = 0; i < rates.length; i++) {
                rates[i] = noRate;
            }
            Fact noFact = new Fact(NONE, NONE, NONE, NONE, NONE, NEVER);
            for (int i = 0; i < facts.length; i++) {
                facts[i] = noFact;
            }
            for (int i = 0; i < claims.length; i++) {
                claims[i] = noFact;
            }
            Law noLaw = new Law();
            for (int i = 0; i < laws.length; i++) {
                laws[i] = noLaw;
            }
        }

        Person personAt(int n) {
            return persons[n >= 0 && n < personCount ? n : MOST_PERSONS];
        }

        Work workAt(int n) {
            return works[n >= 0 && n < workCount ? n : MOST_WORKS];
        }

        Society societyAt(int n) {
            return societies[n >= 0 && n < societyCount ? n : MOST_SOCIETIES];
        }

        Rate rateAt(int n) {
            return rates[n >= 0 && n < rateCount ? n : MOST_RATES];
        }

        Fact factAt(int n) {
            return facts[n >= 0 && n < factCount ? n : MOST_FACTS];
        }

        Fact claimAt(int n) {
            return claims[n >= 0 && n < claimCount ? n : MOST_CLAIMS];
        }

        Law lawAt(int n) {
            return laws[n >= 0 && n < lawCount ? n : MOST_LAWS];
        }

        boolean hasAllFacts() {
            return factCount >= MOST_FACTS;
        }

        int addFact(Fact fact) {
            if (hasAllFacts()) {
                return NONE;
            }
            facts[factCount] = fact;
            factCount++;
            return factCount - 1;
        }

        boolean wasEverSold(int work) {
            for (int i = 0; i < factCount; i++) {
                if (factAt(i).kind == SALE && factAt(i).what == work) {
                    return true;
                }
            }
            return false;
        }

        /** What the HEIRS of a PERSON have together as known TONIGHT, in parts of WHOLE. */
        int inheritedOf(int person) {
            int all = 0;
            for (int i = 0; i < factCount; i++) {
                Fact right = factAt(i);
                if (right.kind == HEIR && right.one == person && right.isKnownOn(tonight)) {
                    all += twelfths(right.p, right.q);
                }
            }
            return all;
        }

        int claimOf(int person, int sale) {
            for (int i = 0; i < claimCount; i++) {
                if (claimAt(i).one == person && claimAt(i).what == sale) {
                    return i;
                }
            }
            return NONE;
        }

        int rateFor(int land, int day) {
            int best = NONE;
            for (int i = 0; i < rateCount; i++) {
                Rate rate = rateAt(i);
                if (rate.land == land && rate.from <= day && rate.from >= rateAt(best).from) {
                    best = i;
                }
            }
            return rateAt(best).parts;
        }

        /** The number of the LAW of a LAND for a DAY as known on an EVENING; NONE without one. */
        int lawFor(int land, int day, int k) {
            int best = NONE;
            for (int i = 0; i < lawCount; i++) {
                Law law = lawAt(i);
                boolean may = law.land == land && law.from <= day && law.isKnownOn(k);
                if (may && law.from >= lawAt(best).from) {
                    best = i;
                }
            }
            return best;
        }

        int collectorIn(int land) {
            for (int i = 0; i < societyCount; i++) {
                if (societyAt(i).land == land) {
                    return i;
                }
            }
            return NONE;
        }

        /** The society of a PERSON's MANDATE for a DAY as known on an EVENING; NONE without one. */
        int mandateOf(int person, int day, int k) {
            int society = NONE;
            for (int i = 0; i < factCount; i++) {
                Fact mandate = factAt(i);
                boolean may = mandate.kind == MANDATE && mandate.one == person && mandate.day <= day;
                if (may && mandate.isKnownOn(k)) {
                    society = mandate.other;
                }
            }
            return society;
        }

        /** The FACT next behind another one among the HANDS of a WORK (NONE: the first); NONE: it was the last. */
        int handBehind(int work, int number, int k) {
            int day = factAt(number).day;
            int next = NONE;
            for (int i = 0; i < factCount; i++) {
                Fact hand = factAt(i);
                boolean behind = hand.day > day || hand.day == day && i > number;
                boolean nearer = next == NONE || hand.day < factAt(next).day;
                if (behind && nearer && hand.isHandOf(work) && hand.isKnownOn(k)) {
                    next = i;
                }
            }
            return next;
        }
    }

    /** A LAW as its text tells it; the blank one, of no LAND, is of no text. */
    private static final class Law extends Told {
        // Numbers of 'due' are themselves; below 0 stand first the VALUES (-1 the first one), then these.
        static final int VALUES = 10;
        static final int OR = -11;
        static final int AND = -12;
        static final int NOT = -13;
        static final int LESS = -14;
        static final int LIKE = -15;
        static final int PLUS = -16;
        static final int MINUS = -17;
        static final int TIMES = -18;
        static final int BY = -19;
        static final int MOST_CLAUSES = 16;
        private static final int MOST_PENDING = 64;

        int land = NONE;
        int from = NONE;
        private final int[] stepEnd = new int[MOST_CLAUSES];
        private final int[] stepParts = new int[MOST_CLAUSES];
        private int stepCount;
        int rest;
        int least;
        int most;
        int years;
        int claimEvenings;
        private int agreeing;
        /** The last 'due', each sign behind what it joins; empty without a 'due'. */
        private final int[] due = new int[MOST_BYTES];
        private int dueLength;
        private final int[] pending = new int[MOST_PENDING];

        Law() {
            blank();
        }

        /** As without any text. */
        void blank() {
            stepCount = 0;
            rest = 0;
            least = 0;
            most = NONE;
            years = 70;
            claimEvenings = 300;
            agreeing = 0;
            dueLength = 0;
        }

        void startDue() {
            dueLength = 0;
        }

        void addDue(int sign) {
            if (dueLength < due.length) {
                due[dueLength] = sign;
                dueLength++;
            }
        }

        int lastStep() {
            return stepCount > 0 && stepCount <= stepEnd.length ? stepEnd[stepCount - 1] : 0;
        }

        void addStep(int end, int parts) {
            if (stepCount < stepEnd.length) {
                stepEnd[stepCount] = end;
                stepParts[stepCount] = parts;
                stepCount++;
            }
        }

        void agreeWith(int other) {
            agreeing |= 1 << other;
        }

        boolean isFor(int artistLand) {
            return artistLand == land || artistLand >= 0 && (agreeing >> artistLand & 1) == 1;
        }

        int partOf(int price) {
            long all = 0;
            int ahead = 0;
            for (int i = 0; i < stepCount && i < stepEnd.length; i++) {
                all += (long) Math.max(0, Math.min(price, stepEnd[i]) - ahead) * stepParts[i];
                ahead = stepEnd[i];
            }
            all += (long) Math.max(0, price - ahead) * rest;
            long part = all / 10000;
            return (int) (most == NONE ? part : Math.min(part, most));
        }

        boolean isDue(int[] values, boolean without) {
            return dueLength == 0 ? without : worth(values) != 0;
        }

        private int worth(int[] values) {
            int depth = 0;
            for (int i = 0; i < dueLength && i < due.length; i++) {
                int sign = due[i];
                if (sign > OR && depth < pending.length) {
                    pending[depth] = operand(sign, values);
                    depth++;
                } else if (sign == NOT && depth > 0) {
                    pending[depth - 1] = truth(pending[depth - 1] == 0);
                } else if (depth > 1) {
                    depth--;
                    pending[depth - 1] = join(sign, pending[depth - 1], pending[depth]);
                }
            }
            return pending[0];
        }

        private static int operand(int sign, int[] values) {
            if (sign >= 0) {
                return sign;
            }
            return -1 - sign < values.length ? values[-1 - sign] : 0;
        }

        private static int join(int sign, int left, int right) {
            switch (sign) {
                case OR:
                    return truth(left != 0 || right != 0);
                case AND:
                    return truth(left != 0 && right != 0);
                case LESS:
                    return truth(left < right);
                case LIKE:
                    return truth(left == right);
                case PLUS:
                    return left + right;
                case MINUS:
                    return left - right;
                case TIMES:
                    return left * right;
                default:
                    return right == 0 ? 0 : left / right;
            }
        }

        private static int truth(boolean holds) {
            return holds ? 1 : 0;
        }
    }

    /** Reads the text of a LAW, up to its first FAULT. */
    private static final class Reader {
        private static final String CLAUSES = "due step rest least most years claim agrees";
        private static final int DUE = 0;
        private static final int STEP = 1;
        private static final int REST = 2;
        private static final int LEAST = 3;
        private static final int MOST = 4;
        private static final int YEARS = 5;
        private static final int CLAIM_TIME = 6;
        private static final String VALUE_NAMES = "price seller buyer how artist held from again joint edition";
        private static final String SIGNS = ";()+-*/<=";

        private static final int MISPLACED = 1;
        private static final int TOO_MUCH = 2;
        private static final int NO_VALUE = 3;
        private static final int NO_LAND = 4;

        private static final int MOST_DIGITS = 8;
        private static final int MOST_NUMBER = 99999999;
        private static final int MOST_PARTS = 10000;
        private static final int MOST_YEARS = 200;
        private static final int MOST_WITHIN = 6;
        private static final int MOST_NOTS = 6;

        // What a TOKEN is, but for signs, which are their own byte.
        private static final int END = 0;
        private static final int NO_TOKEN = 1;
        private static final int WORD = 2;
        private static final int NUMBER = 3;

        private int[] text = new int[0];
        private int length = 0;
        private int lands = 0;
        private Law law = new Law();
        private int fault = 0;
        int faultPlace = NONE;
        private int token = END;
        private int start = 0;
        private int end = 0;
        private int number = 0;
        private int digits = 0;

        /** The FAULT, 0 without one; then the law is as its text tells it. */
        int read(int[] bytes, int n, int landsThere, Law into) {
            text = bytes;
            length = Math.min(n, bytes.length);
            lands = landsThere;
            law = into;
            law.blank();
            fault = 0;
            faultPlace = NONE;
            end = 0;
            next();
            for (int ahead = 0; ahead <= Law.MOST_CLAUSES && fault == 0 && token != END; ahead++) {
                readClause(ahead);
            }
            return fault;
        }

        private void refuse(int why) {
            if (fault == 0) {
                fault = why;
                faultPlace = start;
            }
        }

        private void next() {
            while (end < length && (text[end] == 32 || text[end] == 10)) {
                end++;
            }
            start = end;
            number = 0;
            digits = 0;
            if (end >= length) {
                token = END;
            } else if (text[end] >= 'a' && text[end] <= 'z') {
                token = WORD;
                while (end < length && text[end] >= 'a' && text[end] <= 'z') {
                    end++;
                }
            } else if (text[end] >= '0' && text[end] <= '9') {
                token = NUMBER;
                while (end < length && text[end] >= '0' && text[end] <= '9') {
                    // More digits are too many anyway.
                    number = digits < MOST_DIGITS ? number * 10 + text[end] - '0' : number;
                    digits++;
                    end++;
                }
            } else {
                token = SIGNS.indexOf((char) text[end]) >= 0 ? text[end] : NO_TOKEN;
                end++;
            }
        }

        /** Which of some names, a blank between each two, the TOKEN is; NONE: none of them. */
        private int wordAmong(String names) {
            int which = 0;
            int first = 0;
            for (int i = 0; i <= names.length() && token == WORD; i++) {
                if (i == names.length() || names.charAt(i) == ' ') {
                    if (isName(names, first, i)) {
                        return which;
                    }
                    which++;
                    first = i + 1;
                }
            }
            return NONE;
        }

        private boolean isName(String names, int first, int behind) {
            if (behind - first != end - start) {
                return false;
            }
            for (int i = first; i < behind; i++) {
                if (names.charAt(i) != text[start + i - first]) {
                    return false;
                }
            }
            return true;
        }

        private boolean isWord(String name) {
            return wordAmong(name) == 0;
        }

        private void readClause(int ahead) {
            int which = wordAmong(CLAUSES);
            if (which == NONE) {
                refuse(MISPLACED);
                return;
            }
            if (ahead >= Law.MOST_CLAUSES) {
                refuse(TOO_MUCH);
                return;
            }
            next();
            if (which == DUE) {
                law.startDue();
                readExpr(0);
            } else if (which == STEP) {
                int stepEnd = takeNumber(law.lastStep() + 1, MOST_NUMBER);
                law.addStep(stepEnd, takeNumber(0, MOST_PARTS));
            } else {
                readSetting(which);
            }
            takeSign(';');
        }

        private void readSetting(int which) {
            switch (which) {
                case REST:
                    law.rest = takeNumber(0, MOST_PARTS);
                    break;
                case LEAST:
                    law.least = takeNumber(0, MOST_NUMBER);
                    break;
                case MOST:
                    law.most = takeNumber(0, MOST_NUMBER);
                    break;
                case YEARS:
                    law.years = takeNumber(0, MOST_YEARS);
                    break;
                case CLAIM_TIME:
                    law.claimEvenings = takeNumber(0, MOST_NUMBER);
                    break;
                default:
                    if (token == NUMBER && digits <= MOST_DIGITS && number >= lands) {
                        refuse(NO_LAND);
                    }
                    law.agreeWith(takeNumber(0, MOST_NUMBER));
                    break;
            }
        }

        private void takeSign(int sign) {
            if (token != sign) {
                refuse(MISPLACED);
            }
            next();
        }

        private int takeNumber(int least, int most) {
            int taken = number;
            if (token != NUMBER) {
                refuse(MISPLACED);
            } else if (digits > MOST_DIGITS || number < least || number > most) {
                refuse(TOO_MUCH);
            }
            next();
            return taken;
        }

        private void readExpr(int within) {
            if (within >= MOST_WITHIN && (token == NUMBER || token == WORD || token == '(')) {
                refuse(TOO_MUCH);
                return;
            }
            readAnd(within);
            for (int i = 0; i < length && fault == 0 && isWord("or"); i++) {
                next();
                readAnd(within);
                law.addDue(Law.OR);
            }
        }

        private void readAnd(int within) {
            readNot(within);
            for (int i = 0; i < length && fault == 0 && isWord("and"); i++) {
                next();
                readNot(within);
                law.addDue(Law.AND);
            }
        }

        private void readNot(int within) {
            int nots = 0;
            while (nots < MOST_NOTS && isWord("not")) {
                nots++;
                next();
            }
            if (isWord("not")) {
                refuse(TOO_MUCH);
                return;
            }
            readSum(within);
            if (fault == 0 && (token == '<' || token == '=')) {
                int sign = token == '<' ? Law.LESS : Law.LIKE;
                next();
                readSum(within);
                law.addDue(sign);
            }
            for (int i = 0; i < nots; i++) {
                law.addDue(Law.NOT);
            }
        }

        private void readSum(int within) {
            readProduct(within);
            for (int i = 0; i < length && fault == 0 && (token == '+' || token == '-'); i++) {
                int sign = token == '+' ? Law.PLUS : Law.MINUS;
                next();
                readProduct(within);
                law.addDue(sign);
            }
        }

        private void readProduct(int within) {
            readPart(within);
            for (int i = 0; i < length && fault == 0 && (token == '*' || token == '/'); i++) {
                int sign = token == '*' ? Law.TIMES : Law.BY;
                next();
                readPart(within);
                law.addDue(sign);
            }
        }

        private void readPart(int within) {
            if (token == NUMBER) {
                law.addDue(takeNumber(0, MOST_NUMBER));
            } else if (token == WORD) {
                int value = wordAmong(VALUE_NAMES);
                if (value == NONE) {
                    refuse(NO_VALUE);
                }
                law.addDue(-1 - value);
                next();
            } else {
                takeSign('(');
                if (fault == 0) {
                    readExpr(within + 1);
                    takeSign(')');
                }
            }
        }
    }

    /** What is DUE of one SALE and where it goes, as known on one EVENING. */
    private static final class Account {
        private static final int ROUNDS = 8;
        private static final int NEVER_GOT = 99999;
        private static final int SURELY = 1;
        private static final int OPEN = 2;

        private final Books books;
        private int evening = 0;
        private final int[] firstDeath = new int[MOST_PERSONS];
        private final int[] lastDeath = new int[MOST_PERSONS];
        private final int[] values = new int[Law.VALUES];
        private Fact sold;
        private Work work;
        int price = 0;
        int daysHeld = 0;
        int soldAgain = 0;
        boolean counts = false;
        int part = 0;
        int heldBack = 0;
        final int[] share = new int[MOST_PERSONS];
        final int[] status = new int[MOST_PERSONS];
        final int[] goes = new int[MOST_PERSONS];
        private final int[] comes = new int[MOST_PERSONS];
        final int[] society = new int[MOST_PERSONS];
        final int[] gotten = new int[MOST_PERSONS];

        Account(Books books) {
            this.books = books;
            this.sold = books.factAt(NONE);
            this.work = books.workAt(NONE);
        }

        void open(int k) {
            evening = k;
            for (int p = 0; p < MOST_PERSONS; p++) {
                firstDeath[p] = NEVER;
                lastDeath[p] = NEVER;
            }
            for (int i = 0; i < books.factCount; i++) {
                Fact death = books.factAt(i);
                if (death.kind == DEATH && death.isKnownOn(k) && isWithin(death.one, 0, MOST_PERSONS - 1)) {
                    firstDeath[death.one] = death.day;
                    lastDeath[death.one] = death.lastDay;
                }
            }
        }

        void settle(Fact sale, int number) {
            look(sale);
            Law law = books.lawAt(books.lawFor(sale.land, sale.day, evening));
            apply(law);
            passOn();
            payOut(law, number);
        }

        /** What the SALE tells by itself and by what is known ahead of it. */
        void look(Fact sale) {
            sold = sale;
            work = books.workAt(sale.what);
            price = (int) ((long) sale.price * books.rateFor(sale.land, sale.day) / 1000);
            soldAgain = 0;
            int gotDay = NONE;
            boolean gotFromArtist = false;
            for (int i = 0; i < books.factCount; i++) {
                Fact hand = books.factAt(i);
                if (!hand.isHandOf(sale.what) || hand.day >= sale.day || !hand.isKnownOn(evening)) {
                    continue;
                }
                if (hand.kind == SALE && hand.day >= sale.day - DAYS_A_YEAR) {
                    soldAgain++;
                }
                if (hand.kind != SEEN && hand.other == sale.one && hand.day >= gotDay) {
                    gotDay = hand.day;
                    gotFromArtist = work.isBy(hand.one);
                }
            }
            daysHeld = gotDay == NONE ? NEVER_GOT : sale.day - gotDay;
            fillValues(gotFromArtist);
        }

        /** In the order in which the Reader names the VALUES. */
        private void fillValues(boolean gotFromArtist) {
            values[0] = price;
            values[1] = books.personAt(sold.one).sort;
            values[2] = books.personAt(sold.other).sort;
            values[3] = sold.how;
            values[4] = work.isBy(sold.one) ? 1 : 0;
            values[5] = daysHeld;
            values[6] = gotFromArtist ? 1 : 0;
            values[7] = soldAgain;
            values[8] = work.artistCount;
            values[9] = work.edition;
        }

        /** What a LAW gives each ARTIST of the SALE that was looked at. */
        void apply(Law law) {
            counts = law.land != NONE && price >= law.least && law.isDue(values, !work.isBy(sold.one));
            part = counts ? law.partOf(price) : 0;
            for (int p = 0; p < MOST_PERSONS; p++) {
                int weight = work.weightOf(p);
                status[p] = counts && weight > 0 ? statusOf(p, law) : 0;
                share[p] = 0;
                if (status[p] != 0 && work.weightOfAll > 0) {
                    share[p] = (int) ((long) part * weight / work.weightOfAll);
                }
            }
        }

        private int statusOf(int artist, Law law) {
            int behindDeath = DAYS_A_YEAR * law.years;
            if (!law.isFor(books.personAt(artist).land) || sold.day >= lastDeath[artist] + behindDeath) {
                return 0;
            }
            return sold.day >= firstDeath[artist] + behindDeath ? OPEN : SURELY;
        }

        private void passOn() {
            heldBack = 0;
            boolean anyDead = false;
            for (int p = 0; p < MOST_PERSONS; p++) {
                goes[p] = share[p];
                anyDead |= goes[p] > 0 && isDead(p);
            }
            for (int round = 0; round < ROUNDS && anyDead; round++) {
                anyDead = goOneRound();
            }
            for (int p = 0; p < MOST_PERSONS; p++) {
                if (isDead(p)) {
                    heldBack += goes[p];
                    goes[p] = 0;
                }
            }
        }

        /** Whether one who is DEAD has something behind it. */
        private boolean goOneRound() {
            for (int p = 0; p < MOST_PERSONS; p++) {
                comes[p] = 0;
            }
            int passed = 0;
            for (int i = 0; i < books.factCount; i++) {
                Fact right = books.factAt(i);
                boolean may = right.kind == HEIR && right.isKnownOn(evening) && isDead(right.one) && right.q > 0;
                if (may && isWithin(right.other, 0, MOST_PERSONS - 1)) {
                    int inherits = (int) ((long) goes[right.one] * right.p / right.q);
                    comes[right.other] += inherits;
                    passed += inherits;
                }
            }
            boolean anyDead = false;
            for (int p = 0; p < MOST_PERSONS; p++) {
                if (isDead(p)) {
                    heldBack += goes[p];
                    goes[p] = 0;
                    anyDead |= comes[p] > 0;
                }
                goes[p] += comes[p];
            }
            heldBack -= passed;
            return anyDead;
        }

        private boolean isDead(int person) {
            return isWithin(person, 0, MOST_PERSONS - 1) && lastDeath[person] <= sold.day;
        }

        private void payOut(Law law, int number) {
            for (int p = 0; p < MOST_PERSONS; p++) {
                gotten[p] = 0;
                society[p] = NONE;
                if (goes[p] > 0) {
                    society[p] = books.mandateOf(p, sold.day, evening);
                    gotten[p] = gottenBy(p, law, number);
                    // Neither a fee nor a CLAIM leaves nothing of something.
                    heldBack += gotten[p] == 0 ? goes[p] : 0;
                }
            }
        }

        private int gottenBy(int person, Law law, int number) {
            if (society[person] != NONE) {
                int fee = books.societyAt(society[person]).fee;
                return goes[person] - (int) ((long) goes[person] * fee / 1000);
            }
            Fact claim = books.claimAt(books.claimOf(person, number));
            boolean inTime = claim.isKnownOn(evening) && claim.told - sold.told <= law.claimEvenings;
            return inTime ? goes[person] : 0;
        }
    }

    /** What societies owe each other for one YEAR, as known on one EVENING. */
    private static final class Clearing {
        private final Books books;
        private final Account account;
        private final long[] owed = new long[MOST_SOCIETIES * MOST_SOCIETIES];
        private final long[] sum = new long[1 << MOST_SOCIETIES];
        private final int[] groups = new int[1 << MOST_SOCIETIES];

        Clearing(Books books, Account account) {
            this.books = books;
            this.account = account;
        }

        void clear(int year, int k) {
            for (int i = 0; i < owed.length; i++) {
                owed[i] = 0;
            }
            account.open(k);
            for (int i = 0; i < books.factCount; i++) {
                Fact sold = books.factAt(i);
                int collector = books.collectorIn(sold.land);
                if (collector != NONE && sold.isSaleOf(year) && sold.isKnownOn(k)) {
                    account.settle(sold, i);
                    addOwed(collector);
                }
            }
        }

        private void addOwed(int collector) {
            for (int p = 0; p < MOST_PERSONS; p++) {
                int pair = pairOf(collector, account.society[p]);
                if (pair != NONE && account.society[p] != collector) {
                    owed[pair] += account.goes[p];
                }
            }
        }

        long owed(int one, int other) {
            int pair = pairOf(one, other);
            return pair == NONE ? 0 : owed[pair];
        }

        private static int pairOf(int one, int other) {
            boolean there = isWithin(one, 0, MOST_SOCIETIES - 1) && isWithin(other, 0, MOST_SOCIETIES - 1);
            return there ? one * MOST_SOCIETIES + other : NONE;
        }

        long netOf(int one) {
            long all = 0;
            for (int other = 0; other < MOST_SOCIETIES; other++) {
                all += owed(other, one) - owed(one, other);
            }
            return all;
        }

        /**
         * Societies whose NETS are 0 together need one payment less than they are; so the fewest are needed
         * where all societies fall into the most such groups.
         */
        int fewestPayments() {
            for (int set = 1; set < groups.length; set++) {
                sum[set] = 0;
                groups[set] = 0;
                for (int one = 0; one < MOST_SOCIETIES; one++) {
                    if ((set >> one & 1) == 1) {
                        sum[set] += netOf(one);
                        groups[set] = Math.max(groups[set], groups[set & ~(1 << one)]);
                    }
                }
                if (sum[set] == 0) {
                    groups[set]++;
                }
            }
            return MOST_SOCIETIES - groups[groups.length - 1];
        }
    }
}
