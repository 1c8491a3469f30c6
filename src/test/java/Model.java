import java.util.ArrayDeque;
import java.util.ArrayList;
import java.util.Arrays;
import java.util.Comparator;
import java.util.List;

/**
 * What the document says, done again as slowly and plainly as can be: all routes are told one by one, hours go by one
 * by one, all sets are tried. Random runs compare the program with it.
 */
final class Model {
    /** A text that can't be read: the place of the sign. */
    private static final class Unreadable extends Exception {
        private static final long serialVersionUID = 1;
        final int place;

        Unreadable(int place) {
            this.place = place;
        }
    }

    private static final class Move {
        int number;
        int trader;
        int goods;
        int units;
        int duty;
        int share;
        int term;
        String state = "ROLLING";
        boolean broken;
        int debt;
        List<Integer> route = new ArrayList<>();
        List<Integer> stamps = new ArrayList<>();

        Move copy() {
            Move m = new Move();
            m.number = number;
            m.trader = trader;
            m.goods = goods;
            m.units = units;
            m.duty = duty;
            m.share = share;
            m.term = term;
            m.state = state;
            m.broken = broken;
            m.debt = debt;
            m.route = new ArrayList<>(route);
            m.stamps = new ArrayList<>(stamps);
            return m;
        }

        boolean is(String... states) {
            return Arrays.asList(states).contains(state);
        }

        int seen() {
            return route.get(stamps.size() - 1);
        }

        int next() {
            return stamps.size() < route.size() ? route.get(stamps.size()) : -1;
        }
    }

    private static final class World {
        int hour;
        List<int[]> traders = new ArrayList<>();
        List<Move> moves = new ArrayList<>();
        List<int[]> book = new ArrayList<>();

        World copy() {
            World w = new World();
            w.hour = hour;
            for (int[] t : traders) {
                w.traders.add(t.clone());
            }
            for (Move m : moves) {
                w.moves.add(m.copy());
            }
            w.book.addAll(book);
            return w;
        }
    }

    private static final List<String> STATES = List.of("ROLLING", "ARRIVED", "CLOSED", "SOUGHT", "OWED", "PAID");
    private static final List<String> ENTRIES = List.of("started", "STAMPED", "broken", "CLOSED", "SOUGHT", "OWED", "PAID");

    String text = "";
    List<Long> row = new ArrayList<>();
    private List<Integer> countries = List.of(0, 0);
    private List<int[]> roads = new ArrayList<>();
    private List<Integer> duties = new ArrayList<>();
    private World world = new World();
    private World kept;
    private final ArrayDeque<World> undone = new ArrayDeque<>();
    private int at;

    // ---- reading

    private char sign() {
        return at < text.length() ? text.charAt(at) : '\uffff';
    }

    private void need(char c) throws Unreadable {
        if (sign() != c) {
            throw new Unreadable(at);
        }
        at++;
    }

    /** No number has more digits than the greatest that may be. */
    private int number(int greatest) throws Unreadable {
        int digits = String.valueOf(Math.max(0, greatest)).length();
        int from = at;
        while (at < from + digits && sign() >= '0' && sign() <= '9') {
            at++;
            if (text.charAt(from) == '0') {
                break;
            }
        }
        if (at == from) {
            throw new Unreadable(at);
        }
        return Integer.parseInt(text.substring(from, at));
    }

    private void mustBe(boolean good) throws Unreadable {
        if (!good) {
            throw new Unreadable(at - 1);
        }
    }

    private void mustEnd() throws Unreadable {
        if (at != text.length()) {
            throw new Unreadable(at);
        }
    }

    private List<Integer> readRoute() throws Unreadable {
        at = 0;
        List<Integer> route = new ArrayList<>();
        do {
            int office = number(countries.size() - 1);
            mustBe(office < countries.size() && !route.contains(office));
            mustBe(route.isEmpty() || road(route.get(route.size() - 1), office) > 0);
            route.add(office);
            if (route.size() == 8) {
                mustEnd();
                return route;
            }
            if (route.size() == 1 || at < text.length()) {
                need('-');
            } else {
                return route;
            }
        } while (true);
    }

    int net() {
        List<Integer> newCountries = new ArrayList<>();
        List<int[]> newRoads = new ArrayList<>();
        List<Integer> newDuties = new ArrayList<>();
        List<Integer> oldCountries = countries;
        try {
            at = 0;
            while (sign() >= '0' && sign() <= '5' && newCountries.size() < 12) {
                newCountries.add(number(5));
            }
            if (newCountries.size() < 2) {
                throw new Unreadable(at);
            }
            need('|');
            if (at < text.length() && sign() != '|') {
                readRoads(newCountries.size(), newRoads);
            }
            if (at < text.length()) {
                need('|');
                do {
                    int duty = number(999);
                    mustBe(duty >= 1);
                    newDuties.add(duty);
                } while (newDuties.size() < 6 && goesOn());
            }
            mustEnd();
        } catch (Unreadable e) {
            text = "";
            countries = oldCountries;
            return -21 - e.place;
        }
        text = "";
        countries = newCountries;
        roads = newRoads;
        duties = newDuties;
        world = new World();
        kept = null;
        undone.clear();
        row = new ArrayList<>();
        return countries.size();
    }

    private boolean goesOn() {
        if (sign() == ',') {
            at++;
            return true;
        }
        return false;
    }

    private void readRoads(int offices, List<int[]> newRoads) throws Unreadable {
        do {
            int a = number(offices - 1);
            mustBe(a < offices);
            need('-');
            int b = number(offices - 1);
            mustBe(b < offices && b != a);
            for (int[] r : newRoads) {
                mustBe(r[0] != Math.min(a, b) || r[1] != Math.max(a, b));
            }
            need(':');
            int hours = number(99);
            mustBe(hours >= 1);
            newRoads.add(new int[] {Math.min(a, b), Math.max(a, b), hours});
        } while (newRoads.size() < 40 && goesOn());
    }

    String written() {
        StringBuilder s = new StringBuilder();
        for (int c : countries) {
            s.append(c);
        }
        s.append('|');
        List<int[]> sorted = new ArrayList<>(roads);
        sorted.sort(Comparator.<int[]>comparingInt(r -> r[0]).thenComparingInt(r -> r[1]));
        List<String> told = new ArrayList<>();
        for (int[] r : sorted) {
            told.add(r[0] + "-" + r[1] + ":" + r[2]);
        }
        s.append(String.join(",", told));
        told.clear();
        for (int d : duties) {
            told.add("" + d);
        }
        return s.append(duties.isEmpty() ? "" : "|").append(String.join(",", told)).toString();
    }

    // ---- the net

    private boolean no(int number, List<?> all) {
        return number < 0 || number >= all.size();
    }

    int road(int a, int b) {
        if (no(a, countries) || no(b, countries)) {
            return -1;
        }
        for (int[] r : roads) {
            if (r[0] == Math.min(a, b) && r[1] == Math.max(a, b)) {
                return r[2];
            }
        }
        return -2;
    }

    int office(int office, int what) {
        if (no(office, countries)) {
            return -1;
        }
        if (what == 0) {
            return countries.get(office);
        }
        if (what == 1) {
            int many = 0;
            for (int o = 0; o < countries.size(); o++) {
                many += road(office, o) > 0 ? 1 : 0;
            }
            return many;
        }
        if (what != 2) {
            return -1;
        }
        int bits = 0;
        for (Move m : world.moves) {
            bits |= m.is("ROLLING", "SOUGHT") && m.seen() == office ? 1 << m.number : 0;
        }
        return bits;
    }

    /** All rows of at most so many unlike offices from the end of one to b, the first rows first. */
    private void allWays(List<Integer> way, int b, int most, List<List<Integer>> found) {
        int last = way.get(way.size() - 1);
        if (last == b) {
            found.add(new ArrayList<>(way));
            return;
        }
        for (int o = 0; o < countries.size() && way.size() < most; o++) {
            if (road(last, o) > 0 && !way.contains(o)) {
                way.add(o);
                allWays(way, b, most, found);
                way.remove(way.size() - 1);
            }
        }
    }

    private List<List<Integer>> allWays(int a, int b, int most) {
        List<List<Integer>> found = new ArrayList<>();
        allWays(new ArrayList<>(List.of(a)), b, most, found);
        return found;
    }

    private int span(List<Integer> way) {
        int span = 0;
        for (int i = 1; i < way.size(); i++) {
            span += road(way.get(i - 1), way.get(i));
        }
        return span;
    }

    private List<Integer> best(int a, int b) {
        List<Integer> best = null;
        for (List<Integer> way : allWays(a, b, 12)) {
            if (best == null || span(way) < span(best)) {
                best = way;
            }
        }
        return best;
    }

    private int tell(long answer, long... numbers) {
        row = new ArrayList<>();
        for (long n : numbers) {
            row.add(n);
        }
        return (int) answer;
    }

    int way(int a, int b) {
        if (no(a, countries) || no(b, countries)) {
            return -1;
        }
        List<Integer> best = best(a, b);
        return best == null ? -2 : tell(span(best), best.stream().mapToLong(o -> o).toArray());
    }

    int routes(int a, int b) {
        if (no(a, countries) || no(b, countries) || a == b) {
            return -1;
        }
        List<List<Integer>> all = allWays(a, b, 8);
        if (all.isEmpty()) {
            return -2;
        }
        return tell(all.size(), all.stream().mapToInt(this::span).min().getAsInt(),
            all.stream().mapToInt(this::span).max().getAsInt());
    }

    int gates(int a, int b) {
        if (no(a, countries) || no(b, countries) || a == b) {
            return -1;
        }
        List<List<Integer>> all = allWays(a, b, 8);
        if (all.isEmpty()) {
            return -2;
        }
        int bits = 0;
        for (int o = 0; o < countries.size(); o++) {
            int office = o;
            bits |= o != a && o != b && all.stream().allMatch(r -> r.contains(office)) ? 1 << o : 0;
        }
        return tell(bits, Integer.bitCount(bits));
    }

    // ---- traders

    private void deed() {
        undone.push(world.copy());
        if (undone.size() > 8) {
            undone.removeLast();
        }
    }

    private static boolean bad(int sum, int level) {
        return sum < 0 || sum > 999999 || level < 0 || level > 3;
    }

    private List<Move> open(int trader) {
        List<Move> open = new ArrayList<>();
        for (Move m : world.moves) {
            if (m.trader == trader && !m.is("CLOSED", "PAID")) {
                open.add(m);
            }
        }
        return open;
    }

    private int used(int trader) {
        return open(trader).stream().mapToInt(m -> m.share).sum();
    }

    private int free(int trader) {
        return world.traders.get(trader)[0] - used(trader);
    }

    private int share(int duty, int trader) {
        int level = world.traders.get(trader)[1];
        return level == 0 ? duty : level == 3 ? 0 : (int) Math.ceil(duty / (level == 1 ? 2.0 : 10.0));
    }

    private static int bits(List<Move> moves) {
        int bits = 0;
        for (Move m : moves) {
            bits |= 1 << m.number;
        }
        return bits;
    }

    int trader(int sum, int level) {
        if (bad(sum, level)) {
            return -1;
        }
        if (world.traders.size() == 6) {
            return -2;
        }
        deed();
        world.traders.add(new int[] {sum, level});
        return world.traders.size() - 1;
    }

    int sums(int trader, int sum, int level) {
        if (no(trader, world.traders) || bad(sum, level)) {
            return -1;
        }
        if (used(trader) > sum) {
            return -2;
        }
        deed();
        world.traders.set(trader, new int[] {sum, level});
        return used(trader);
    }

    int inUse(int trader) {
        if (no(trader, world.traders)) {
            return -1;
        }
        int[] t = world.traders.get(trader);
        return tell(used(trader), t[0], t[1], free(trader), bits(open(trader)));
    }

    int owes(int trader) {
        if (no(trader, world.traders)) {
            return -1;
        }
        long owed = 0;
        long paid = 0;
        for (Move m : world.moves) {
            owed += m.trader == trader && m.is("OWED") ? m.debt : 0;
            paid += m.trader == trader && m.is("PAID") ? m.debt : 0;
        }
        return tell(owed, paid);
    }

    // ---- movements

    private void write(String what, Move m, int hour) {
        world.book.add(new int[] {ENTRIES.indexOf(what), m.number, hour});
    }

    int starts(int trader, int goods, int units) {
        Move m = new Move();
        try {
            m.route = readRoute();
        } catch (Unreadable e) {
            text = "";
            return -21 - e.place;
        }
        text = "";
        if (no(trader, world.traders) || no(goods, duties) || units < 1 || units > 999) {
            return -1;
        }
        if (world.moves.size() == 20) {
            return -2;
        }
        m.number = world.moves.size();
        m.trader = trader;
        m.goods = goods;
        m.units = units;
        m.duty = units * duties.get(goods);
        m.share = share(m.duty, trader);
        m.term = world.hour + 2 * span(m.route) + 24;
        if (m.share > free(trader)) {
            return -3;
        }
        deed();
        m.stamps.add(world.hour);
        world.moves.add(m);
        write("started", m, world.hour);
        return m.number;
    }

    int stamps(int movement, int office) {
        if (no(movement, world.moves) || no(office, countries)) {
            return -1;
        }
        if (!world.moves.get(movement).is("ROLLING", "SOUGHT")) {
            return -2;
        }
        if (world.moves.get(movement).next() != office) {
            return -3;
        }
        deed();
        Move m = world.moves.get(movement);
        m.stamps.add(world.hour);
        write("STAMPED", m, world.hour);
        if (m.next() == -1) {
            m.state = "ARRIVED";
        }
        return m.route.size() - m.stamps.size();
    }

    private int brokenSeals() {
        return (int) world.moves.stream().filter(m -> m.broken).count();
    }

    int breaks(int movement) {
        if (no(movement, world.moves)) {
            return -1;
        }
        Move m = world.moves.get(movement);
        if (!m.is("ROLLING", "SOUGHT")) {
            return -2;
        }
        if (m.broken) {
            return -3;
        }
        deed();
        m.broken = true;
        write("broken", m, world.hour);
        return brokenSeals();
    }

    int controls(int movement, int units) {
        if (no(movement, world.moves) || units < 0 || units > world.moves.get(movement).units) {
            return -1;
        }
        Move m = world.moves.get(movement);
        if (!m.is("ARRIVED")) {
            return -2;
        }
        deed();
        m.state = units == m.units ? "CLOSED" : "OWED";
        m.debt = (m.units - units) * duties.get(m.goods) * (m.broken ? 2 : 1);
        write(m.state, m, world.hour);
        return m.debt;
    }

    private int step(Move m) {
        int step = 0;
        for (int hour = m.term + 24; m.is("SOUGHT") && hour <= world.hour; hour += 24) {
            step++;
        }
        return step;
    }

    int proves(int movement) {
        if (no(movement, world.moves)) {
            return -1;
        }
        Move m = world.moves.get(movement);
        if (!m.is("SOUGHT")) {
            return -2;
        }
        if (m.broken) {
            return -3;
        }
        deed();
        int step = step(m);
        m.state = "CLOSED";
        write("CLOSED", m, world.hour);
        return step;
    }

    int pays(int movement) {
        if (no(movement, world.moves)) {
            return -1;
        }
        Move m = world.moves.get(movement);
        if (!m.is("OWED")) {
            return -2;
        }
        deed();
        m.state = "PAID";
        write("PAID", m, world.hour);
        return m.debt;
    }

    int hours(int n) {
        if (n < 1 || n > 999 || world.hour + n > 99999) {
            return -1;
        }
        deed();
        List<Move> changed = new ArrayList<>();
        for (int i = 0; i < n; i++) {
            world.hour++;
            for (Move m : world.moves) {
                if (m.is("ROLLING") && world.hour > m.term) {
                    m.state = "SOUGHT";
                    write("SOUGHT", m, world.hour);
                    changed.add(m);
                } else if (m.is("SOUGHT") && step(m) == 3) {
                    m.state = "OWED";
                    m.debt = m.duty;
                    write("OWED", m, world.hour);
                    changed.add(m);
                }
            }
        }
        return (int) changed.stream().distinct().count();
    }

    // ---- what there is

    int movement(int movement, int what) {
        if (no(movement, world.moves) || what < 0 || what > 12) {
            return -1;
        }
        Move m = world.moves.get(movement);
        return new int[] {m.trader, m.goods, m.units, STATES.indexOf(m.state), m.duty, m.share, m.term, m.stamps.size(),
            m.seen(), m.broken ? 1 : 0, m.debt, step(m), m.route.size()}[what];
    }

    int stop(int movement, int k) {
        if (no(movement, world.moves) || no(k, world.moves.get(movement).route)) {
            return -1;
        }
        Move m = world.moves.get(movement);
        return tell(m.route.get(k), k < m.stamps.size() ? m.stamps.get(k) : -1);
    }

    private int toGo(Move m) {
        return span(m.route.subList(m.stamps.size() - 1, m.route.size()));
    }

    int left(int movement) {
        if (no(movement, world.moves)) {
            return -1;
        }
        Move m = world.moves.get(movement);
        return tell(toGo(m), m.term - world.hour, m.next());
    }

    int borders(int movement) {
        if (no(movement, world.moves)) {
            return -1;
        }
        List<Integer> route = world.moves.get(movement).route;
        int changes = 0;
        int bits = 1 << countries.get(route.get(0));
        for (int i = 1; i < route.size(); i++) {
            bits |= 1 << countries.get(route.get(i));
            changes += countries.get(route.get(i)).equals(countries.get(route.get(i - 1))) ? 0 : 1;
        }
        return tell(changes, bits);
    }

    int asked(int movement) {
        if (no(movement, world.moves)) {
            return -1;
        }
        Move m = world.moves.get(movement);
        if (!m.is("SOUGHT")) {
            return -2;
        }
        int bits = 0;
        if (step(m) == 1) {
            bits = 1 << m.seen();
        } else if (step(m) == 2) {
            for (int o : m.route.subList(m.stamps.size() - 1, m.route.size())) {
                bits |= 1 << o;
            }
        }
        return tell(bits, step(m), 24 - (world.hour - m.term) % 24);
    }

    int states(int state) {
        if (no(state, STATES)) {
            return -1;
        }
        List<Move> all = new ArrayList<>(world.moves);
        all.removeIf(m -> !m.is(STATES.get(state)));
        return tell(bits(all), all.size(), all.stream().mapToInt(m -> m.share).sum());
    }

    int owed(int country) {
        if (country < 0 || country > 5) {
            return -1;
        }
        List<Move> all = new ArrayList<>(world.moves);
        all.removeIf(m -> !m.is("OWED", "PAID") || countries.get(m.seen()) != country);
        return tell(all.stream().filter(m -> m.is("OWED")).mapToInt(m -> m.debt).sum(),
            all.stream().filter(m -> m.is("PAID")).mapToInt(m -> m.debt).sum(), all.size());
    }

    private boolean isLate(Move m) {
        return m.is("ROLLING") && m.stamps.get(m.stamps.size() - 1) + toGo(m) > m.term;
    }

    int late() {
        List<Move> all = new ArrayList<>(world.moves);
        all.removeIf(m -> !isLate(m));
        return tell(bits(all), all.size());
    }

    int next(int office) {
        if (no(office, countries)) {
            return -1;
        }
        List<Move> all = new ArrayList<>(world.moves);
        all.removeIf(m -> !m.is("ROLLING", "SOUGHT") || m.next() != office);
        return tell(bits(all), all.size(), all.stream().mapToInt(m -> m.units).sum());
    }

    int worth(int trader) {
        if (no(trader, world.traders)) {
            return -1;
        }
        int worth = open(trader).stream().mapToInt(m -> m.duty).sum();
        return tell(worth, worth - used(trader), open(trader).stream().filter(m -> m.is("SOUGHT", "OWED")).count());
    }

    int busiest() {
        int busiest = -2;
        List<Move> most = new ArrayList<>();
        for (int o = 0; o < countries.size(); o++) {
            int office = o;
            List<Move> all = new ArrayList<>(world.moves);
            all.removeIf(m -> !m.is("ROLLING", "SOUGHT")
                || !m.route.subList(m.stamps.size(), m.route.size()).contains(office));
            if (all.size() > most.size()) {
                busiest = o;
                most = all;
            }
        }
        return busiest < 0 ? busiest : tell(busiest, bits(most));
    }

    // ---- what could be

    int can(int trader, int goods) {
        if (no(trader, world.traders) || no(goods, duties)) {
            return -1;
        }
        int units = 999;
        while (share(units * duties.get(goods), trader) > free(trader)) {
            units--;
        }
        return tell(units, share(units * duties.get(goods), trader));
    }

    int frees(int trader, int s) {
        if (no(trader, world.traders) || s < 0 || s > 999999) {
            return -1;
        }
        List<Move> open = open(trader);
        int fewest = -2;
        int least = 0;
        for (int set = 0; set < 1 << open.size(); set++) {
            int free = free(trader);
            int bits = 0;
            for (int i = 0; i < open.size(); i++) {
                free += (set >> i & 1) * open.get(i).share;
                bits |= (set >> i & 1) << open.get(i).number;
            }
            int many = Integer.bitCount(set);
            if (free >= s && (fewest < 0 || many < fewest || many == fewest && bits < least)) {
                fewest = many;
                least = bits;
            }
        }
        return fewest < 0 ? fewest : tell(fewest, least);
    }

    int when(int trader, int s) {
        if (no(trader, world.traders) || s < 0 || s > 999999) {
            return -1;
        }
        for (int hour = world.hour; hour < world.hour + 2000; hour++) {
            int free = free(trader);
            for (Move m : open(trader)) {
                boolean closed = m.is("ARRIVED")
                    || m.is("ROLLING") && !isLate(m) && m.stamps.get(m.stamps.size() - 1) + toGo(m) <= hour;
                free += closed ? m.share : 0;
            }
            if (free >= s) {
                return hour;
            }
        }
        return -2;
    }

    int fits(int trader) {
        List<int[]> loads = new ArrayList<>();
        try {
            at = 0;
            if (!text.isEmpty()) {
                do {
                    int goods = number(duties.size() - 1);
                    mustBe(!no(goods, duties));
                    need(':');
                    int units = number(999);
                    mustBe(units > 0);
                    loads.add(new int[] {goods, units});
                } while (loads.size() < 8 && goesOn());
            }
            mustEnd();
        } catch (Unreadable e) {
            text = "";
            return -21 - e.place;
        }
        text = "";
        if (no(trader, world.traders)) {
            return -1;
        }
        int[] best = {0, 0, 0};
        for (int set = 1; set < 1 << loads.size(); set++) {
            int[] now = {set, 0, 0};
            for (int i = 0; i < loads.size(); i++) {
                if ((set >> i & 1) == 1) {
                    now[1] += loads.get(i)[1];
                    now[2] += share(loads.get(i)[1] * duties.get(loads.get(i)[0]), trader);
                }
            }
            if (now[2] <= free(trader) && (now[1] > best[1] || now[1] == best[1] && now[2] < best[2])) {
                best = now;
            }
        }
        return tell(best[0], best[1], best[2]);
    }

    int detour() {
        List<Integer> route;
        try {
            route = readRoute();
        } catch (Unreadable e) {
            text = "";
            return -21 - e.place;
        }
        text = "";
        int shortest = span(best(route.get(0), route.get(route.size() - 1)));
        return tell(span(route) - shortest, span(route), world.hour + 2 * span(route) + 24);
    }

    int risk(int movement) {
        if (no(movement, world.moves)) {
            return -1;
        }
        Move m = world.moves.get(movement);
        return m.is("CLOSED", "OWED", "PAID") ? -2 : tell(m.duty, m.duty - m.share, countries.get(m.seen()));
    }

    int tightest() {
        int tightest = -2;
        int most = -1;
        for (int t = 0; t < world.traders.size(); t++) {
            int sum = world.traders.get(t)[0];
            int thousandths = sum == 0 ? 0 : (int) (used(t) * 1000L / sum);
            if (thousandths > most) {
                tightest = t;
                most = thousandths;
            }
        }
        return tightest < 0 ? tightest : tell(tightest, most);
    }

    // ---- the book, undone, counted

    int book(int i, int what) {
        int entry = world.book.size() - 1 - i;
        return i < 0 || i >= 30 || entry < 0 || what < 0 || what > 2 ? -1 : world.book.get(entry)[what];
    }

    int written(int i) {
        String written = written();
        return i == -1 ? written.length() : i < 0 || i >= written.length() ? -1 : written.charAt(i);
    }

    int undo() {
        if (undone.isEmpty()) {
            return -2;
        }
        world = undone.pop();
        return undone.size();
    }

    int keeps() {
        kept = world.copy();
        return world.hour;
    }

    int back() {
        if (kept == null) {
            return -2;
        }
        deed();
        world = kept.copy();
        return world.hour;
    }

    int count(int what) {
        int[] counts = {world.hour, countries.size(), roads.size(), duties.size(), world.traders.size(), world.moves.size(),
            undone.size(), Math.min(30, world.book.size()), row.size(), text.length(), brokenSeals()};
        return what < 0 || what >= counts.length ? -1 : counts[what];
    }

    // ---- for those who make random runs

    int offices() {
        return countries.size();
    }

    int openMovements(int trader) {
        return no(trader, world.traders) ? 0 : open(trader).size();
    }

    int nextOf(int movement) {
        return no(movement, world.moves) ? -1 : world.moves.get(movement).next();
    }
}
