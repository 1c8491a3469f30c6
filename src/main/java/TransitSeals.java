import java.util.NoSuchElementException;

/**
 * Transit seals: goods under guarantee on their way from office to office.
 * The document ../shared/DOC.md tells every call; words in capitals here are its words.
 */
public final class TransitSeals {
    public static final int NONE = -1;

    // Each call gives its own meaning to these two; where both fit, NOT_SO comes first.
    private static final int NOT_SO = -2;
    private static final int NOR_SO = -3;
    private static final int FIRST_SIGN = -21;

    private static final int MOST_SIGNS = 200;
    private static final int SIGNS_AT_ONCE = 4;
    private static final int MOST_OFFICES = 12;
    private static final int LEAST_OFFICES = 2;
    private static final int MOST_ROADS = 40;
    private static final int MOST_GOODS = 6;
    private static final int MOST_TRADERS = 6;
    private static final int MOST_MOVEMENTS = 20;
    private static final int MOST_STOPS = 8;
    private static final int MOST_LOADS = 8;
    private static final int MOST_ENTRIES = 30;
    private static final int MOST_UNDONE = 8;
    private static final int COUNTRIES = 6;
    private static final int MOST_ROAD_HOURS = 99;
    private static final int MOST_DUTY = 999;
    private static final int MOST_UNITS = 999;
    private static final int MOST_SUM = 999999;
    private static final int MOST_HOUR = 99999;
    private static final int MOST_HOURS = 999;

    private static final int FULL = 0;
    private static final int HALF = 1;
    private static final int TENTH = 2;
    private static final int FREE = 3;

    private static final int ROLLING = 0;
    private static final int ARRIVED = 1;
    private static final int CLOSED = 2;
    private static final int SOUGHT = 3;
    private static final int OWED = 4;
    private static final int PAID = 5;

    private static final int WROTE_STARTED = 0;
    private static final int WROTE_STAMPED = 1;
    private static final int WROTE_BROKEN = 2;
    private static final int WROTE_CLOSED = 3;
    private static final int WROTE_SOUGHT = 4;
    private static final int WROTE_OWED = 5;
    private static final int WROTE_PAID = 6;

    private static final int STEP_HOURS = 24;
    private static final int STEPS = 3;
    private static final int SPARE_HOURS = 24;
    /** Beyond every hour that can be. */
    private static final int NEVER = 1000000;

    /** Stands for "no way" in sums of two ways, so it must stay below half of an int. */
    private static final int FAR = 1000000;

    private final Reader reader = new Reader();
    private final Row told = new Row();
    private final Route route = new Route();
    private final Loads loads = new Loads();
    private final Search search = new Search();
    private final Ledger ledger = new Ledger();
    private final History history = new History();
    private Net net = new Net();
    // A text that can't be read must leave the net alone, so it is read into this one.
    private Net draft = new Net();

    public TransitSeals() {
    }

    // ---- the net

    public int sign(int v) {
        Text text = reader.text;
        if (text.size() + SIGNS_AT_ONCE > MOST_SIGNS) {
            return NONE;
        }
        for (int shift = 24; shift >= 0; shift -= 8) {
            text.add(v >> shift & 255);
        }
        return text.size();
    }

    public boolean end(int n) {
        if (n < 0 || n > reader.text.size()) {
            return false;
        }
        reader.text.cutTo(n);
        return true;
    }

    public int net() {
        draft.readFrom(reader);
        if (reader.failed()) {
            return reader.refusal();
        }
        Net read = draft;
        draft = net;
        net = read;
        ledger.clear();
        history.clear();
        told.clear();
        return net.offices;
    }

    public int road(int a, int b) {
        if (!net.hasOffice(a) || !net.hasOffice(b)) {
            return NONE;
        }
        int hours = net.roadHours(a, b);
        return hours == 0 ? NOT_SO : hours;
    }

    public int office(int office, int what) {
        if (!net.hasOffice(office)) {
            return NONE;
        }
        switch (what) {
            case 0:
                return net.countryOf(office);
            case 1:
                return net.roadsAt(office);
            case 2:
                return ledger.underwaySeenAt(office);
            default:
                return NONE;
        }
    }

    public int way(int a, int b) {
        if (!net.hasOffice(a) || !net.hasOffice(b)) {
            return NONE;
        }
        int hours = net.wayHours(a, b);
        if (hours >= FAR) {
            return NOT_SO;
        }
        net.tellWay(a, b, told);
        return hours;
    }

    public int routes(int a, int b) {
        if (!net.hasOffice(a) || !net.hasOffice(b) || a == b) {
            return NONE;
        }
        search.run(net, a, b);
        if (search.found == 0) {
            return NOT_SO;
        }
        tell(search.least, search.greatest);
        return search.found;
    }

    public int gates(int a, int b) {
        if (!net.hasOffice(a) || !net.hasOffice(b) || a == b) {
            return NONE;
        }
        if (!net.hasRoute(a, b, NONE)) {
            return NOT_SO;
        }
        int bits = 0;
        for (int o = 0; o < net.offices; o++) {
            if (o != a && o != b && !net.hasRoute(a, b, o)) {
                bits |= 1 << o;
            }
        }
        tell(Integer.bitCount(bits));
        return bits;
    }

    // ---- traders

    public int trader(int sum, int level) {
        if (!isSum(sum) || !isLevel(level)) {
            return NONE;
        }
        if (ledger.traders >= MOST_TRADERS) {
            return NOT_SO;
        }
        history.remember(ledger);
        return ledger.addTrader(sum, level);
    }

    public int sums(int trader, int sum, int level) {
        if (!ledger.hasTrader(trader) || !isSum(sum) || !isLevel(level)) {
            return NONE;
        }
        int used = ledger.sharesOf(trader);
        if (used > sum) {
            return NOT_SO;
        }
        history.remember(ledger);
        ledger.setTrader(trader, sum, level);
        return used;
    }

    public int inUse(int trader) {
        if (!ledger.hasTrader(trader)) {
            return NONE;
        }
        tell(ledger.sumOf(trader), ledger.levelOf(trader));
        told.add(ledger.freeOf(trader));
        told.add(ledger.openOf(trader));
        return ledger.sharesOf(trader);
    }

    public int owes(int trader) {
        if (!ledger.hasTrader(trader)) {
            return NONE;
        }
        tell(ledger.debtsOf(trader, PAID));
        return ledger.debtsOf(trader, OWED);
    }

    // ---- movements

    public int starts(int trader, int goods, int units) {
        route.readFrom(reader, net);
        if (reader.failed()) {
            return reader.refusal();
        }
        if (!ledger.hasTrader(trader) || !net.hasGoods(goods) || units < 1 || units > MOST_UNITS) {
            return NONE;
        }
        Movement m = ledger.nextToStart();
        if (m == null) {
            return NOT_SO;
        }
        int duty = units * net.dutyOf(goods);
        int share = share(duty, ledger.levelOf(trader));
        if (share > ledger.freeOf(trader)) {
            return NOR_SO;
        }
        history.remember(ledger);
        m.load(trader, goods, units, duty, share);
        m.start(route, ledger.hour);
        ledger.started++;
        ledger.write(WROTE_STARTED, m);
        return m.number;
    }

    public int stamps(int movement, int office) {
        Movement m = ledger.find(movement);
        if (m == null || !net.hasOffice(office)) {
            return NONE;
        }
        if (!m.isUnderway()) {
            return NOT_SO;
        }
        if (m.comesTo() != office) {
            return NOR_SO;
        }
        history.remember(ledger);
        m.stamp(ledger.hour);
        ledger.write(WROTE_STAMPED, m);
        return m.stops - m.stamps;
    }

    public int breaks(int movement) {
        Movement m = ledger.find(movement);
        if (m == null) {
            return NONE;
        }
        if (!m.isUnderway()) {
            return NOT_SO;
        }
        if (m.broken) {
            return NOR_SO;
        }
        history.remember(ledger);
        m.broken = true;
        ledger.write(WROTE_BROKEN, m);
        return ledger.brokenSeals();
    }

    public int controls(int movement, int units) {
        Movement m = ledger.find(movement);
        if (m == null || units < 0 || units > m.units) {
            return NONE;
        }
        if (m.state != ARRIVED) {
            return NOT_SO;
        }
        history.remember(ledger);
        if (units == m.units) {
            m.state = CLOSED;
            ledger.write(WROTE_CLOSED, m);
            return 0;
        }
        int missing = (m.units - units) * net.dutyOf(m.goods);
        m.owe(m.broken ? 2 * missing : missing);
        ledger.write(WROTE_OWED, m);
        return m.debt;
    }

    public int proves(int movement) {
        Movement m = ledger.find(movement);
        if (m == null) {
            return NONE;
        }
        if (m.state != SOUGHT) {
            return NOT_SO;
        }
        if (m.broken) {
            return NOR_SO;
        }
        history.remember(ledger);
        int step = m.step(ledger.hour);
        m.state = CLOSED;
        ledger.write(WROTE_CLOSED, m);
        return step;
    }

    public int pays(int movement) {
        Movement m = ledger.find(movement);
        if (m == null) {
            return NONE;
        }
        if (m.state != OWED) {
            return NOT_SO;
        }
        history.remember(ledger);
        m.state = PAID;
        ledger.write(WROTE_PAID, m);
        return m.debt;
    }

    public int hours(int n) {
        if (n < 1 || n > MOST_HOURS || ledger.hour + n > MOST_HOUR) {
            return NONE;
        }
        history.remember(ledger);
        return ledger.letPass(n);
    }

    // ---- what there is

    public int movement(int movement, int what) {
        Movement m = ledger.find(movement);
        if (m == null) {
            return NONE;
        }
        switch (what) {
            case 0:
                return m.trader;
            case 1:
                return m.goods;
            case 2:
                return m.units;
            case 3:
                return m.state;
            case 4:
                return m.duty;
            case 5:
                return m.share;
            case 6:
                return m.term;
            case 7:
                return m.stamps;
            case 8:
                return m.seen();
            case 9:
                return m.broken ? 1 : 0;
            case 10:
                return m.debt;
            case 11:
                return m.step(ledger.hour);
            case 12:
                return m.stops;
            default:
                return NONE;
        }
    }

    public int stop(int movement, int k) {
        Movement m = ledger.find(movement);
        if (m == null || m.officeAt(k) == NONE) {
            return NONE;
        }
        tell(m.stampedAt(k));
        return m.officeAt(k);
    }

    public int left(int movement) {
        Movement m = ledger.find(movement);
        if (m == null) {
            return NONE;
        }
        tell(m.term - ledger.hour, m.comesTo());
        return hoursToGo(m);
    }

    public int borders(int movement) {
        Movement m = ledger.find(movement);
        if (m == null) {
            return NONE;
        }
        int changes = 0;
        int bits = 0;
        for (int k = 0; k < m.stops; k++) {
            int country = net.countryOf(m.officeAt(k));
            if (k > 0 && country != net.countryOf(m.officeAt(k - 1))) {
                changes++;
            }
            bits |= 1 << country;
        }
        tell(bits);
        return changes;
    }

    public int asked(int movement) {
        Movement m = ledger.find(movement);
        if (m == null) {
            return NONE;
        }
        if (m.state != SOUGHT) {
            return NOT_SO;
        }
        int step = m.step(ledger.hour);
        tell(step, m.term + STEP_HOURS * (step + 1) - ledger.hour);
        if (step == 0) {
            return 0;
        }
        return step == 1 ? 1 << m.seen() : m.officesFrom(m.stamps - 1);
    }

    public int states(int state) {
        if (state < ROLLING || state > PAID) {
            return NONE;
        }
        int bits = 0;
        int shares = 0;
        for (Movement m : ledger.movements) {
            if (m.state == state) {
                bits |= m.bit();
                shares += m.share;
            }
        }
        tell(Integer.bitCount(bits), shares);
        return bits;
    }

    public int owed(int country) {
        if (country < 0 || country >= COUNTRIES) {
            return NONE;
        }
        int owed = 0;
        int paid = 0;
        int many = 0;
        for (Movement m : ledger.movements) {
            if (m.isIndebted() && net.countryOf(m.seen()) == country) {
                owed += m.state == OWED ? m.debt : 0;
                paid += m.state == PAID ? m.debt : 0;
                many++;
            }
        }
        tell(paid, many);
        return owed;
    }

    public int late() {
        int bits = 0;
        for (Movement m : ledger.movements) {
            if (isLate(m)) {
                bits |= m.bit();
            }
        }
        tell(Integer.bitCount(bits));
        return bits;
    }

    public int next(int office) {
        if (!net.hasOffice(office)) {
            return NONE;
        }
        int bits = 0;
        int units = 0;
        for (Movement m : ledger.movements) {
            if (m.isUnderway() && m.comesTo() == office) {
                bits |= m.bit();
                units += m.units;
            }
        }
        tell(Integer.bitCount(bits), units);
        return bits;
    }

    public int worth(int trader) {
        if (!ledger.hasTrader(trader)) {
            return NONE;
        }
        int worth = 0;
        int inTrouble = 0;
        for (Movement m : ledger.movements) {
            if (m.isOpenFor(trader)) {
                worth += m.duty;
                inTrouble += m.state == SOUGHT || m.state == OWED ? 1 : 0;
            }
        }
        tell(worth - ledger.sharesOf(trader), inTrouble);
        return worth;
    }

    public int busiest() {
        int busiest = NONE;
        int most = 0;
        for (int o = 0; o < net.offices; o++) {
            int bits = ledger.stillToCome(o);
            if (Integer.bitCount(bits) > Integer.bitCount(most)) {
                busiest = o;
                most = bits;
            }
        }
        if (busiest == NONE) {
            return NOT_SO;
        }
        tell(most);
        return busiest;
    }

    // ---- what could be

    public int can(int trader, int goods) {
        if (!ledger.hasTrader(trader) || !net.hasGoods(goods)) {
            return NONE;
        }
        int duty = net.dutyOf(goods);
        int level = ledger.levelOf(trader);
        int units = MOST_UNITS;
        if (level != FREE && duty > 0) {
            // A share rounded up fits just when the whole does in as many times what is free.
            units = Math.min(MOST_UNITS, partsOf(level) * ledger.freeOf(trader) / duty);
        }
        tell(share(units * duty, level));
        return units;
    }

    public int frees(int trader, int s) {
        if (!ledger.hasTrader(trader) || !isSum(s)) {
            return NONE;
        }
        int need = s - ledger.freeOf(trader);
        int open = ledger.openOf(trader);
        int fewest = fewestFreeing(open, need);
        if (fewest == NONE) {
            return NOT_SO;
        }
        tell(leastBitsFreeing(open, need, fewest));
        return fewest;
    }

    public int when(int trader, int s) {
        if (!ledger.hasTrader(trader) || !isSum(s)) {
            return NONE;
        }
        int need = s - ledger.freeOf(trader);
        if (need <= 0) {
            return ledger.hour;
        }
        int earliest = NEVER;
        for (Movement m : ledger.movements) {
            if (m.isOpenFor(trader)) {
                int hour = closingHour(m);
                if (hour < earliest && freedUntil(trader, hour) >= need) {
                    earliest = hour;
                }
            }
        }
        return earliest == NEVER ? NOT_SO : earliest;
    }

    public int fits(int trader) {
        loads.readFrom(reader, net);
        if (reader.failed()) {
            return reader.refusal();
        }
        if (!ledger.hasTrader(trader)) {
            return NONE;
        }
        loads.choose(net, ledger.levelOf(trader), ledger.freeOf(trader));
        tell(loads.chosenUnits, loads.chosenShares);
        return loads.chosen;
    }

    public int detour() {
        route.readFrom(reader, net);
        if (reader.failed()) {
            return reader.refusal();
        }
        tell(route.span, route.termFrom(ledger.hour));
        return route.span - net.wayHours(route.officeAt(0), route.officeAt(route.stops - 1));
    }

    public int risk(int movement) {
        Movement m = ledger.find(movement);
        if (m == null) {
            return NONE;
        }
        if (!m.isUnderway() && m.state != ARRIVED) {
            return NOT_SO;
        }
        tell(m.duty - m.share, net.countryOf(m.seen()));
        return m.duty;
    }

    public int tightest() {
        int tightest = NONE;
        int most = NONE;
        for (int t = 0; t < ledger.traders; t++) {
            int sum = ledger.sumOf(t);
            int thousandths = sum == 0 ? 0 : 1000 * ledger.sharesOf(t) / sum;
            if (thousandths > most) {
                tightest = t;
                most = thousandths;
            }
        }
        if (tightest == NONE) {
            return NOT_SO;
        }
        tell(most);
        return tightest;
    }

    // ---- the book, undone, counted

    public int book(int i, int what) {
        return ledger.book.read(i, what);
    }

    public int written(int i) {
        return i == NONE ? net.written.size() : net.written.signAt(i);
    }

    public int undo() {
        return history.takeBack(ledger) ? history.depth : NOT_SO;
    }

    public int keeps() {
        history.keep(ledger);
        return ledger.hour;
    }

    public int back() {
        return history.bringBack(ledger) ? ledger.hour : NOT_SO;
    }

    public int count(int what) {
        switch (what) {
            case 0:
                return ledger.hour;
            case 1:
                return net.offices;
            case 2:
                return net.roads;
            case 3:
                return net.goods;
            case 4:
                return ledger.traders;
            case 5:
                return ledger.started;
            case 6:
                return history.depth;
            case 7:
                return ledger.book.size();
            case 8:
                return told.size();
            case 9:
                return reader.text.size();
            case 10:
                return ledger.brokenSeals();
            default:
                return NONE;
        }
    }

    public long row(int i) throws NoSuchElementException {
        if (i < 0 || i >= told.size()) {
            throw new NoSuchElementException();
        }
        return told.numberAt(i);
    }

    // ---- what several calls need

    private void tell(int number) {
        told.clear();
        told.add(number);
    }

    private void tell(int first, int second) {
        tell(first);
        told.add(second);
    }

    private int hoursToGo(Movement m) {
        int hours = 0;
        for (int k = m.stamps; k < m.stops; k++) {
            hours += net.roadHours(m.officeAt(k - 1), m.officeAt(k));
        }
        return hours;
    }

    private int hourOfArrival(Movement m) {
        return m.stampedAt(m.stamps - 1) + hoursToGo(m);
    }

    private boolean isLate(Movement m) {
        return m.state == ROLLING && hourOfArrival(m) > m.term;
    }

    private int closingHour(Movement m) {
        if (m.state == ARRIVED) {
            return ledger.hour;
        }
        int arrival = hourOfArrival(m);
        if (m.state != ROLLING || arrival > m.term) {
            return NEVER;
        }
        return Math.max(ledger.hour, arrival);
    }

    private int freedUntil(int trader, int hour) {
        int freed = 0;
        for (Movement m : ledger.movements) {
            if (m.isOpenFor(trader) && closingHour(m) <= hour) {
                freed += m.share;
            }
        }
        return freed;
    }

    private int fewestFreeing(int open, int need) {
        for (int many = 0; many <= MOST_MOVEMENTS; many++) {
            if (ledger.greatestShares(open, many) >= need) {
                return many;
            }
        }
        return NONE;
    }

    /** The least bits leave out the highest movement wherever those below it are enough. */
    private int leastBitsFreeing(int open, int need, int fewest) {
        int bits = 0;
        int missing = need;
        int many = fewest;
        for (int i = MOST_MOVEMENTS - 1; i >= 0 && many > 0; i--) {
            Movement m = ledger.find(i);
            if (m == null || (open & m.bit()) == 0) {
                continue;
            }
            int below = open & (m.bit() - 1);
            if (ledger.greatestShares(below, many) < missing) {
                bits |= m.bit();
                missing -= m.share;
                many--;
            }
        }
        return bits;
    }

    private static boolean isSum(int sum) {
        return sum >= 0 && sum <= MOST_SUM;
    }

    private static boolean isLevel(int level) {
        return level >= FULL && level <= FREE;
    }

    /** Of how many parts of a duty the share is one; 0: there is no share. */
    private static int partsOf(int level) {
        switch (level) {
            case FULL:
                return 1;
            case HALF:
                return 2;
            case TENTH:
                return 10;
            default:
                return 0;
        }
    }

    private static int share(int duty, int level) {
        int parts = partsOf(level);
        return parts == 0 ? 0 : (duty + parts - 1) / parts;
    }

    /** No number told by a text has more than three digits. */
    private static int digitsOf(int number) {
        if (number < 10) {
            return 1;
        }
        return number < 100 ? 2 : 3;
    }

    private static int numberIn(int[] numbers, int i) {
        return i >= 0 && i < numbers.length ? numbers[i] : 0;
    }

    private static void put(int[] numbers, int i, int number) {
        if (i >= 0 && i < numbers.length) {
            numbers[i] = number;
        }
    }

    private static void copy(int[] from, int[] to) {
        for (int i = 0; i < from.length && i < to.length; i++) {
            to[i] = from[i];
        }
    }

    private static void wipe(int[] numbers) {
        for (int i = 0; i < numbers.length; i++) {
            numbers[i] = 0;
        }
    }

    /** The ROW. */
    private static final class Row {
        private final int[] numbers = new int[MOST_OFFICES];
        private int size;

        int size() {
            return size;
        }

        void clear() {
            size = 0;
        }

        void add(int number) {
            if (size < numbers.length) {
                put(numbers, size, number);
                size++;
            }
        }

        int numberAt(int i) {
            return numberIn(numbers, i);
        }
    }

    /** Signs in a row: THE TEXT, and the net as it is written. */
    private static final class Text {
        private final int[] signs = new int[MOST_SIGNS];
        private int size;

        int size() {
            return size;
        }

        int signAt(int i) {
            return i >= 0 && i < size && i < signs.length ? signs[i] : NONE;
        }

        void add(int sign) {
            if (size < signs.length) {
                put(signs, size, sign);
                size++;
            }
        }

        void addNumber(int number) {
            if (number >= 100) {
                add('0' + number / 100 % 10);
            }
            if (number >= 10) {
                add('0' + number / 10 % 10);
            }
            add('0' + number % 10);
        }

        void cutTo(int n) {
            if (n >= 0 && n <= size) {
                size = n;
            }
        }
    }

    /** Reads THE TEXT from its first sign on, and keeps the place of the first sign that can't stand. */
    private static final class Reader {
        final Text text = new Text();
        private int place;
        private int wrong = NONE;

        void begin() {
            place = 0;
            wrong = NONE;
        }

        boolean failed() {
            return wrong != NONE;
        }

        int refusal() {
            return FIRST_SIGN - wrong;
        }

        boolean atEnd() {
            return place >= text.size();
        }

        boolean sees(char sign) {
            return text.signAt(place) == sign;
        }

        boolean takes(char sign) {
            if (wrong != NONE || text.signAt(place) != sign) {
                return false;
            }
            place++;
            return true;
        }

        void needs(char sign) {
            if (!takes(sign)) {
                refuseHere();
            }
        }

        /** Whatever the call answers, THE TEXT is empty then. */
        void finish() {
            if (!atEnd()) {
                refuseHere();
            }
            text.cutTo(0);
        }

        void refuseHere() {
            wrong = wrong == NONE ? place : wrong;
        }

        /** Refuses the last sign taken, a number's last digit. */
        void refuseLast() {
            wrong = wrong == NONE ? place - 1 : wrong;
        }

        int digit() {
            int sign = text.signAt(place);
            return sign >= '0' && sign <= '9' ? sign - '0' : NONE;
        }

        /**
         * Takes as many digits as the greatest that may be has, before it judges the number: a wrong one is refused at
         * its last digit.
         */
        int number(int least, int most) {
            if (failed()) {
                return NONE;
            }
            if (digit() == NONE) {
                refuseHere();
                return NONE;
            }
            int digits = digitsOf(most);
            int value = 0;
            for (int i = 0; i < digits && digit() != NONE && (i == 0 || value > 0); i++) {
                value = value * 10 + digit();
                place++;
            }
            if (value < least || value > most) {
                refuseLast();
                return NONE;
            }
            return value;
        }
    }

    /** The NET: offices, roads and goods, and what follows from them alone. */
    private static final class Net {
        private final int[] countries = new int[MOST_OFFICES];
        private final int[] duties = new int[MOST_GOODS];
        private final int[] roadHours = new int[MOST_OFFICES * MOST_OFFICES];
        private final int[] wayHours = new int[MOST_OFFICES * MOST_OFFICES];
        private final int[] near = new int[MOST_OFFICES];
        final Text written = new Text();
        int offices;
        int roads;
        int goods;

        Net() {
            offices = LEAST_OFFICES;
            measureWays();
            writeDown();
        }

        boolean hasOffice(int o) {
            return o >= 0 && o < offices;
        }

        boolean hasGoods(int g) {
            return g >= 0 && g < goods;
        }

        int countryOf(int o) {
            return numberIn(countries, o);
        }

        /** Offices to which a ROAD leads from this one, as bits. */
        int near(int o) {
            return numberIn(near, o);
        }

        int roadsAt(int o) {
            return Integer.bitCount(near(o));
        }

        int dutyOf(int g) {
            return numberIn(duties, g);
        }

        /** HOURS of the ROAD between two offices; 0: there is none. */
        int roadHours(int a, int b) {
            return hasOffice(a) && hasOffice(b) ? numberIn(roadHours, pair(a, b)) : 0;
        }

        /** HOURS of the shortest way; FAR or more: there is none. */
        int wayHours(int a, int b) {
            return hasOffice(a) && hasOffice(b) ? numberIn(wayHours, pair(a, b)) : FAR;
        }

        private static int pair(int a, int b) {
            return a * MOST_OFFICES + b;
        }

        void readFrom(Reader reader) {
            reader.begin();
            clear();
            readCountries(reader);
            readRoads(reader);
            readDuties(reader);
            reader.finish();
            if (!reader.failed()) {
                measureWays();
                writeDown();
            }
        }

        private void clear() {
            offices = 0;
            roads = 0;
            goods = 0;
            wipe(roadHours);
            wipe(near);
        }

        private void readCountries(Reader reader) {
            for (int o = 0; o < MOST_OFFICES && reader.digit() >= 0 && reader.digit() < COUNTRIES; o++) {
                put(countries, o, reader.number(0, COUNTRIES - 1));
                offices++;
            }
            if (offices < LEAST_OFFICES) {
                reader.refuseHere();
            }
            reader.needs('|');
        }

        private void readRoads(Reader reader) {
            boolean more = !reader.failed() && !reader.atEnd() && !reader.sees('|');
            while (more && roads < MOST_ROADS) {
                readRoad(reader);
                roads++;
                more = roads < MOST_ROADS && reader.takes(',');
            }
        }

        private void readRoad(Reader reader) {
            int a = reader.number(0, offices - 1);
            reader.needs('-');
            int b = reader.number(0, offices - 1);
            if (a == b || roadHours(a, b) > 0) {
                reader.refuseLast();
            }
            reader.needs(':');
            int hours = reader.number(1, MOST_ROAD_HOURS);
            if (!reader.failed()) {
                join(a, b, hours);
                join(b, a, hours);
            }
        }

        private void join(int a, int b, int hours) {
            put(roadHours, pair(a, b), hours);
            put(near, a, near(a) | 1 << b);
        }

        private void readDuties(Reader reader) {
            boolean more = !reader.failed() && reader.takes('|');
            while (more && goods < MOST_GOODS) {
                put(duties, goods, reader.number(1, MOST_DUTY));
                goods++;
                more = goods < MOST_GOODS && reader.takes(',');
            }
        }

        private void measureWays() {
            for (int a = 0; a < offices; a++) {
                for (int b = 0; b < offices; b++) {
                    int hours = roadHours(a, b);
                    put(wayHours, pair(a, b), a == b ? 0 : hours > 0 ? hours : FAR);
                }
            }
            for (int over = 0; over < offices; over++) {
                for (int a = 0; a < offices; a++) {
                    for (int b = 0; b < offices; b++) {
                        int hours = wayHours(a, over) + wayHours(over, b);
                        put(wayHours, pair(a, b), Math.min(wayHours(a, b), hours));
                    }
                }
            }
        }

        private void writeDown() {
            written.cutTo(0);
            for (int o = 0; o < offices; o++) {
                written.addNumber(countryOf(o));
            }
            written.add('|');
            boolean first = true;
            for (int a = 0; a < offices; a++) {
                for (int b = a + 1; b < offices; b++) {
                    if (roadHours(a, b) > 0) {
                        writeRoad(a, b, first);
                        first = false;
                    }
                }
            }
            for (int g = 0; g < goods; g++) {
                written.add(g == 0 ? '|' : ',');
                written.addNumber(dutyOf(g));
            }
        }

        private void writeRoad(int a, int b, boolean first) {
            if (!first) {
                written.add(',');
            }
            written.addNumber(a);
            written.add('-');
            written.addNumber(b);
            written.add(':');
            written.addNumber(roadHours(a, b));
        }

        /** Taking the first office that keeps to a shortest way each time gives the first of like ways. */
        void tellWay(int a, int b, Row row) {
            row.clear();
            row.add(a);
            int at = a;
            for (int steps = 1; steps < offices && at != b; steps++) {
                at = firstOnTheWay(at, b);
                row.add(at);
            }
        }

        private int firstOnTheWay(int at, int b) {
            for (int o = 0; o < offices; o++) {
                int hours = roadHours(at, o);
                if (hours > 0 && hours + wayHours(o, b) == wayHours(at, b)) {
                    return o;
                }
            }
            return b;
        }

        /** Whether a ROUTE leads from a to b without one office; the fewest roads decide, as a ROUTE has few stops. */
        boolean hasRoute(int a, int b, int without) {
            int shut = without == NONE ? 0 : 1 << without;
            int reached = 1 << a;
            for (int road = 1; road < MOST_STOPS; road++) {
                int further = reached;
                for (int o = 0; o < offices; o++) {
                    if ((reached >> o & 1) != 0) {
                        further |= near(o);
                    }
                }
                reached = further & ~shut;
            }
            return (reached >> b & 1) != 0;
        }
    }

    /** Counts all ROUTES between two offices, and their spans. */
    private static final class Search {
        private Net net;
        private int goal;
        int found;
        int least;
        int greatest;

        void run(Net searched, int from, int to) {
            net = searched;
            goal = to;
            found = 0;
            least = NEVER;
            greatest = 0;
            follow(this, from, 1 << from | 1 << to, 1, 0);
        }

        /** The stops so far end at an office; it calls itself at most MOST_STOPS deep. */
        private static void follow(Search s, int at, int passed, int stops, int span) {
            Net net = s.net;
            if (net == null) {
                return;
            }
            int last = net.roadHours(at, s.goal);
            if (last > 0) {
                s.arrive(span + last);
            }
            if (stops + 2 > MOST_STOPS) {
                return;
            }
            int open = net.near(at) & ~passed;
            for (int o = 0; o < net.offices; o++) {
                if ((open >> o & 1) != 0) {
                    follow(s, o, passed | 1 << o, stops + 1, span + net.roadHours(at, o));
                }
            }
        }

        private void arrive(int span) {
            found++;
            least = Math.min(least, span);
            greatest = Math.max(greatest, span);
        }
    }

    /** A ROUTE told by THE TEXT. */
    private static final class Route {
        private final int[] offices = new int[MOST_STOPS];
        int stops;
        int span;

        int officeAt(int k) {
            return k >= 0 && k < stops ? numberIn(offices, k) : NONE;
        }

        int termFrom(int hour) {
            return hour + 2 * span + SPARE_HOURS;
        }

        void readFrom(Reader reader, Net net) {
            reader.begin();
            stops = 0;
            span = 0;
            int passed = 0;
            boolean more = true;
            while (more && stops < MOST_STOPS) {
                int office = reader.number(0, net.offices - 1);
                int hours = net.roadHours(officeAt(stops - 1), office);
                if ((passed >> office & 1) != 0 || stops > 0 && hours == 0) {
                    reader.refuseLast();
                }
                put(offices, stops, office);
                passed |= 1 << office;
                span += hours;
                stops++;
                more = stops < MOST_STOPS && reader.takes('-');
            }
            if (stops < 2) {
                reader.refuseHere();
            }
            reader.finish();
        }
    }

    /** Loads told by THE TEXT, and the best choice of them. */
    private static final class Loads {
        private final int[] goods = new int[MOST_LOADS];
        private final int[] units = new int[MOST_LOADS];
        private final int[] shares = new int[MOST_LOADS];
        private int size;
        int chosen;
        int chosenUnits;
        int chosenShares;

        void readFrom(Reader reader, Net net) {
            reader.begin();
            size = 0;
            boolean more = !reader.atEnd();
            while (more && size < MOST_LOADS) {
                put(goods, size, reader.number(0, net.goods - 1));
                reader.needs(':');
                put(units, size, reader.number(1, MOST_UNITS));
                size++;
                more = size < MOST_LOADS && reader.takes(',');
            }
            reader.finish();
        }

        void choose(Net net, int level, int free) {
            for (int i = 0; i < size; i++) {
                put(shares, i, share(numberIn(units, i) * net.dutyOf(numberIn(goods, i)), level));
            }
            chosen = 0;
            chosenUnits = 0;
            chosenShares = 0;
            for (int bits = 1; bits < 1 << size; bits++) {
                int unitsTogether = together(units, bits);
                int sharesTogether = together(shares, bits);
                if (sharesTogether <= free && isBetter(unitsTogether, sharesTogether)) {
                    chosen = bits;
                    chosenUnits = unitsTogether;
                    chosenShares = sharesTogether;
                }
            }
        }

        private boolean isBetter(int unitsTogether, int sharesTogether) {
            return unitsTogether > chosenUnits
                || unitsTogether == chosenUnits && sharesTogether < chosenShares;
        }

        private int together(int[] numbers, int bits) {
            int all = 0;
            for (int i = 0; i < size; i++) {
                if ((bits >> i & 1) != 0) {
                    all += numberIn(numbers, i);
                }
            }
            return all;
        }
    }

    /** A MOVEMENT; before it starts its state is NONE. */
    private static final class Movement {
        final int number;
        int trader;
        int goods;
        int units;
        int duty;
        int share;
        int term;
        int state = NONE;
        int stops;
        int stamps;
        int debt;
        boolean broken;
        private final int[] offices = new int[MOST_STOPS];
        private final int[] stampHours = new int[MOST_STOPS];

        Movement(int number) {
            this.number = number;
        }

        int bit() {
            return 1 << number;
        }

        boolean isUnderway() {
            return state == ROLLING || state == SOUGHT;
        }

        boolean isIndebted() {
            return state == OWED || state == PAID;
        }

        boolean isOpenFor(int someTrader) {
            return trader == someTrader && state != NONE && state != CLOSED && state != PAID;
        }

        int officeAt(int k) {
            return k >= 0 && k < stops ? numberIn(offices, k) : NONE;
        }

        int stampedAt(int k) {
            return k >= 0 && k < stamps ? numberIn(stampHours, k) : NONE;
        }

        int seen() {
            return officeAt(stamps - 1);
        }

        /** The next office; NONE: it has all its stamps. */
        int comesTo() {
            return officeAt(stamps);
        }

        int officesFrom(int first) {
            int bits = 0;
            for (int k = Math.max(0, first); k < stops; k++) {
                bits |= 1 << officeAt(k);
            }
            return bits;
        }

        int step(int hour) {
            return state == SOUGHT ? (hour - term) / STEP_HOURS : 0;
        }

        /** The HOUR at which time alone changes its state. */
        int changesAt() {
            if (state == ROLLING) {
                return term + 1;
            }
            return state == SOUGHT ? term + STEPS * STEP_HOURS : NEVER;
        }

        void load(int itsTrader, int itsGoods, int itsUnits, int itsDuty, int itsShare) {
            trader = itsTrader;
            goods = itsGoods;
            units = itsUnits;
            duty = itsDuty;
            share = itsShare;
        }

        void start(Route route, int hour) {
            state = ROLLING;
            stops = route.stops;
            for (int k = 0; k < stops; k++) {
                put(offices, k, route.officeAt(k));
            }
            term = route.termFrom(hour);
            debt = 0;
            broken = false;
            put(stampHours, 0, hour);
            stamps = 1;
        }

        void stamp(int hour) {
            put(stampHours, stamps, hour);
            stamps++;
            if (stamps >= stops) {
                state = ARRIVED;
            }
        }

        void owe(int newDebt) {
            state = OWED;
            debt = newDebt;
        }

        void copyFrom(Movement m) {
            trader = m.trader;
            goods = m.goods;
            units = m.units;
            duty = m.duty;
            share = m.share;
            term = m.term;
            state = m.state;
            stops = m.stops;
            stamps = m.stamps;
            debt = m.debt;
            broken = m.broken;
            copy(m.offices, offices);
            copy(m.stampHours, stampHours);
        }
    }

    /** THE BOOK: a ring, in which the oldest entry makes room for the newest. */
    private static final class Book {
        private final int[] kinds = new int[MOST_ENTRIES];
        private final int[] movements = new int[MOST_ENTRIES];
        private final int[] hours = new int[MOST_ENTRIES];
        private int total;

        int size() {
            return Math.min(total, MOST_ENTRIES);
        }

        void clear() {
            total = 0;
        }

        void add(int kind, int movement, int hour) {
            int at = total % MOST_ENTRIES;
            put(kinds, at, kind);
            put(movements, at, movement);
            put(hours, at, hour);
            total++;
        }

        int read(int i, int what) {
            if (i < 0 || i >= size()) {
                return NONE;
            }
            int at = (total - 1 - i) % MOST_ENTRIES;
            switch (what) {
                case 0:
                    return numberIn(kinds, at);
                case 1:
                    return numberIn(movements, at);
                case 2:
                    return numberIn(hours, at);
                default:
                    return NONE;
            }
        }

        void copyFrom(Book b) {
            total = b.total;
            copy(b.kinds, kinds);
            copy(b.movements, movements);
            copy(b.hours, hours);
        }
    }

    /** All that deeds change: what is undone, kept and brought back. */
    private static final class Ledger {
        private final int[] sums = new int[MOST_TRADERS];
        private final int[] levels = new int[MOST_TRADERS];
        final Movement[] movements = new Movement[MOST_MOVEMENTS];
        final Book book = new Book();
        int hour;
        int traders;
        int started;

        Ledger() {
            for (int i = 0; i < movements.length; i++) {
                movements[i] = new Movement(i);
            }
        }

        void clear() {
            hour = 0;
            traders = 0;
            started = 0;
            for (Movement m : movements) {
                m.state = NONE;
            }
            book.clear();
        }

        void copyFrom(Ledger other) {
            hour = other.hour;
            traders = other.traders;
            started = other.started;
            copy(other.sums, sums);
            copy(other.levels, levels);
            for (int i = 0; i < movements.length && i < other.movements.length; i++) {
                movements[i].copyFrom(other.movements[i]);
            }
            book.copyFrom(other.book);
        }

        boolean hasTrader(int t) {
            return t >= 0 && t < traders;
        }

        int addTrader(int sum, int level) {
            setTrader(traders, sum, level);
            traders++;
            return traders - 1;
        }

        void setTrader(int t, int sum, int level) {
            put(sums, t, sum);
            put(levels, t, level);
        }

        int sumOf(int t) {
            return numberIn(sums, t);
        }

        int levelOf(int t) {
            return numberIn(levels, t);
        }

        int freeOf(int t) {
            return sumOf(t) - sharesOf(t);
        }

        /** What is IN USE of a trader. */
        int sharesOf(int t) {
            int shares = 0;
            for (Movement m : movements) {
                shares += m.isOpenFor(t) ? m.share : 0;
            }
            return shares;
        }

        int openOf(int t) {
            int bits = 0;
            for (Movement m : movements) {
                bits |= m.isOpenFor(t) ? m.bit() : 0;
            }
            return bits;
        }

        int debtsOf(int t, int state) {
            int debts = 0;
            for (Movement m : movements) {
                debts += m.state == state && m.trader == t ? m.debt : 0;
            }
            return debts;
        }

        int brokenSeals() {
            int many = 0;
            for (Movement m : movements) {
                many += m.state != NONE && m.broken ? 1 : 0;
            }
            return many;
        }

        int underwaySeenAt(int office) {
            int bits = 0;
            for (Movement m : movements) {
                bits |= m.isUnderway() && m.seen() == office ? m.bit() : 0;
            }
            return bits;
        }

        int stillToCome(int office) {
            int bits = 0;
            for (Movement m : movements) {
                if (m.isUnderway() && (m.officesFrom(m.stamps) >> office & 1) != 0) {
                    bits |= m.bit();
                }
            }
            return bits;
        }

        /** The greatest shares of so many of these movements, together. */
        int greatestShares(int bits, int many) {
            int rest = bits;
            int shares = 0;
            for (int i = 0; i < many && rest != 0; i++) {
                Movement greatest = null;
                for (Movement m : movements) {
                    if ((rest & m.bit()) != 0 && (greatest == null || m.share > greatest.share)) {
                        greatest = m;
                    }
                }
                if (greatest != null) {
                    rest &= ~greatest.bit();
                    shares += greatest.share;
                }
            }
            return shares;
        }

        /** Null: there is no such movement. */
        Movement find(int movement) {
            return movement < started ? movementAt(movement) : null;
        }

        private Movement movementAt(int i) {
            return i >= 0 && i < movements.length ? movements[i] : null;
        }

        void write(int kind, Movement m) {
            book.add(kind, m.number, hour);
        }

        /** Null: there is no room for one more. */
        Movement nextToStart() {
            return movementAt(started);
        }

        /** Lets hours pass; how many movements became sought or owed. */
        int letPass(int n) {
            int until = hour + n;
            int changed = 0;
            for (int i = 0; i < 2 * MOST_MOVEMENTS; i++) {
                Movement m = firstToChange(until);
                if (m == null) {
                    break;
                }
                change(m);
                changed |= m.bit();
            }
            hour = until;
            return Integer.bitCount(changed);
        }

        private Movement firstToChange(int until) {
            Movement first = null;
            for (Movement m : movements) {
                if (m.changesAt() <= until && (first == null || m.changesAt() < first.changesAt())) {
                    first = m;
                }
            }
            return first;
        }

        private void change(Movement m) {
            int at = m.changesAt();
            if (m.state == ROLLING) {
                m.state = SOUGHT;
                book.add(WROTE_SOUGHT, m.number, at);
            } else {
                m.owe(m.duty);
                book.add(WROTE_OWED, m.number, at);
            }
        }
    }

    /** The latest states before deeds, in a ring, and the state that is kept. */
    private static final class History {
        private final Ledger[] before = new Ledger[MOST_UNDONE];
        private final Ledger kept = new Ledger();
        private boolean keeping;
        private int latest;
        int depth;

        History() {
            for (int i = 0; i < before.length; i++) {
                before[i] = new Ledger();
            }
        }

        void clear() {
            depth = 0;
            keeping = false;
        }

        void remember(Ledger ledger) {
            latest = (latest + 1) % MOST_UNDONE;
            depth = Math.min(depth + 1, MOST_UNDONE);
            Ledger room = latestBefore();
            if (room != null) {
                room.copyFrom(ledger);
            }
        }

        boolean takeBack(Ledger ledger) {
            Ledger last = latestBefore();
            if (depth == 0 || last == null) {
                return false;
            }
            ledger.copyFrom(last);
            latest = (latest + MOST_UNDONE - 1) % MOST_UNDONE;
            depth--;
            return true;
        }

        private Ledger latestBefore() {
            return latest >= 0 && latest < before.length ? before[latest] : null;
        }

        void keep(Ledger ledger) {
            kept.copyFrom(ledger);
            keeping = true;
        }

        boolean bringBack(Ledger ledger) {
            if (!keeping) {
                return false;
            }
            remember(ledger);
            ledger.copyFrom(kept);
            return true;
        }
    }
}
