import java.util.ArrayList;
import java.util.List;
import java.util.Random;

/** Runs of calls by fixed seeds, each answer and row compared with what Model answers. */
final class RandomRunsTest {
    private static final int RUNS = 3000;
    private static final int MOST_CALLS = 500;
    /** One fault shows in thousands of runs; the first answers of it are enough. */
    private static final int MOST_WRONG = 40;

    private final Check check;
    private final int run;
    private final Random random;
    private final TransitSeals x = new TransitSeals();
    private final Model model = new Model();
    private int calls;

    private RandomRunsTest(Check check, int run) {
        this.check = check;
        this.run = run;
        this.random = new Random(run);
    }

    public static void main(String[] args) {
        Check check = new Check("RandomRunsTest");
        int runs = args.length > 0 ? Integer.parseInt(args[0]) : RUNS;
        int first = args.length > 1 ? Integer.parseInt(args[1]) : 0;
        for (int run = first; run < first + runs && check.wrong() < MOST_WRONG; run++) {
            new RandomRunsTest(check, run).go();
        }
        check.close();
    }

    private void go() {
        if (random.nextInt(10) > 0) {
            net();
        }
        while (calls < MOST_CALLS - 80) {
            int kind = random.nextInt(100);
            if (kind < 1) {
                net();
            } else if (kind < 45) {
                deed();
            } else if (kind < 50) {
                textAlone();
            } else {
                ask();
            }
        }
    }

    private void same(String call, long got, long want) {
        calls++;
        check.due("run " + run + ", call " + calls + ": " + call, got, want);
        int size = x.count(8);
        calls++;
        check.due("run " + run + ", call " + calls + ": count(8) after " + call, size, model.row.size());
        if (got < 0 || size != model.row.size()) {
            return;
        }
        for (int i = 0; i < size; i++) {
            calls++;
            check.due("run " + run + ", call " + calls + ": row(" + i + ") after " + call, x.row(i), model.row.get(i));
        }
    }

    // ---- texts

    private void tell(String text) {
        model.text = text;
        calls += 2;
        x.end(0);
        for (int i = 0; i < text.length(); i += 4) {
            int four = 0;
            for (int k = i; k < i + 4; k++) {
                four = four << 8 | (k < text.length() ? text.charAt(k) : random.nextInt(256));
            }
            calls++;
            x.sign(four);
        }
        x.end(text.length());
    }

    private void textAlone() {
        tell("0-1-2".substring(random.nextInt(6)));
        if (random.nextBoolean()) {
            int n = random.nextInt(7) - 1;
            boolean good = n >= 0 && n <= model.text.length();
            calls++;
            check.due("run " + run + ": end(" + n + ")", x.end(n), good);
            model.text = good ? model.text.substring(0, n) : model.text;
        }
    }

    /** Now and then a sign is changed, left out, or put in between. */
    private String spoilt(String text) {
        if (random.nextInt(8) > 0) {
            return text;
        }
        String signs = "0123456789-:,|0011x";
        char sign = signs.charAt(random.nextInt(signs.length()));
        int at = random.nextInt(text.length() + 1);
        int skip = at < text.length() ? random.nextInt(2) : 0;
        String put = random.nextInt(3) == 0 ? "" : String.valueOf(sign);
        String spoilt = text.substring(0, at) + put + text.substring(at + skip);
        return spoilt.substring(0, Math.min(200, spoilt.length()));
    }

    private void net() {
        tell(spoilt(someNet()));
        same("net()", x.net(), model.net());
        int i = random.nextInt(60) - 2;
        same("written(" + i + ")", x.written(i), model.written(i));
        if (random.nextInt(4) == 0) {
            String written = model.written();
            StringBuilder got = new StringBuilder();
            for (int k = 0; k < written.length() && calls < MOST_CALLS - 100; k++) {
                calls++;
                got.append((char) x.written(k));
            }
            check.due("run " + run + ": written", got.toString(), written.substring(0, got.length()));
        }
    }

    private String someNet() {
        int n = random.nextInt(4) == 0 ? 2 + random.nextInt(11) : 3 + random.nextInt(4);
        StringBuilder net = new StringBuilder();
        for (int o = 0; o < n; o++) {
            net.append(random.nextInt(random.nextInt(6) + 1));
        }
        net.append('|');
        int density = 1 + random.nextInt(9);
        int hours = random.nextInt(3) == 0 ? 3 : random.nextInt(3) == 0 ? 99 : 12;
        List<String> roads = new ArrayList<>();
        for (int a = 0; a < n; a++) {
            for (int b = a + 1; b < n; b++) {
                boolean near = b == a + 1 && random.nextInt(8) > 0;
                // Few roads in great nets: all their rows of offices are told one by one.
                if (near || random.nextInt(n > 7 ? 30 : 10) < density && roads.size() < 17) {
                    String road = random.nextBoolean() ? a + "-" + b : b + "-" + a;
                    roads.add(random.nextInt(roads.size() + 1), road + ":" + (1 + random.nextInt(hours)));
                }
            }
        }
        net.append(String.join(",", roads));
        int goods = random.nextInt(8) == 0 ? 0 : 1 + random.nextInt(3);
        for (int g = 0; g < goods; g++) {
            net.append(g == 0 ? '|' : ',').append(1 + random.nextInt(random.nextInt(3) == 0 ? 999 : 30));
        }
        return net.toString();
    }

    private String someRoute() {
        StringBuilder route = new StringBuilder();
        List<Integer> offices = new ArrayList<>();
        int at = random.nextInt(model.offices());
        int most = 2 + random.nextInt(random.nextInt(3) == 0 ? 8 : 3);
        for (int i = 0; i < most && at >= 0; i++) {
            route.append(i == 0 ? "" : "-").append(at);
            offices.add(at);
            int next = -1;
            for (int k = 0; k < 12 && next < 0; k++) {
                int o = random.nextInt(model.offices());
                next = model.road(at, o) > 0 && !offices.contains(o) ? o : -1;
            }
            at = next;
        }
        return spoilt(route.toString());
    }

    // ---- numbers, mostly such as there are

    private int office() {
        return random.nextInt(20) == 0 ? random.nextInt(16) - 2 : random.nextInt(model.offices());
    }

    private int one(int what) {
        int many = model.count(what);
        return many == 0 || random.nextInt(20) == 0 ? random.nextInt(many + 3) - 1 : random.nextInt(many);
    }

    private int trader() {
        return one(4);
    }

    private int movement() {
        int many = model.count(5);
        return many > 4 && random.nextBoolean() ? many - 1 - random.nextInt(4) : one(5);
    }

    private int sum() {
        int kind = random.nextInt(10);
        if (kind == 0) {
            return random.nextInt(2) == 0 ? -1 - random.nextInt(2) : 999998 + random.nextInt(4);
        }
        return random.nextInt(kind < 3 ? 100 : kind < 7 ? 3000 : 60000);
    }

    /** A share near to what is free, or in use. */
    private int share(int trader) {
        int used = model.openMovements(trader) == 0 ? 0 : model.inUse(trader);
        if (used <= 0 || random.nextInt(4) == 0) {
            return sum();
        }
        int free = model.row.get(2).intValue();
        return Math.max(0, free + random.nextInt(used + 2) - random.nextInt(3));
    }

    // ---- calls

    private void deed() {
        switch (random.nextInt(24)) {
            case 0 -> {
                int sum = sum();
                int level = random.nextInt(12) == 0 ? random.nextInt(7) - 2 : random.nextInt(4);
                same("trader(" + sum + ", " + level + ")", x.trader(sum, level), model.trader(sum, level));
            }
            case 1 -> {
                int trader = trader();
                int sum = sum();
                int level = random.nextInt(12) == 0 ? random.nextInt(7) - 2 : random.nextInt(4);
                same("sums(" + trader + ", " + sum + ", " + level + ")", x.sums(trader, sum, level), model.sums(trader, sum, level));
            }
            case 2, 3, 4, 5, 6, 7, 8 -> start();
            case 9, 10, 11, 12, 13 -> {
                int movement = movement();
                int next = model.nextOf(movement);
                int office = next < 0 || random.nextInt(10) == 0 ? office() : next;
                same("stamps(" + movement + ", " + office + ")", x.stamps(movement, office), model.stamps(movement, office));
            }
            case 14 -> {
                int m = movement();
                same("breaks(" + m + ")", x.breaks(m), model.breaks(m));
            }
            case 15, 16 -> {
                int m = movement();
                int units = model.movement(m, 2) + (random.nextInt(3) == 0 ? 0 : random.nextInt(8) - 6);
                same("controls(" + m + ", " + units + ")", x.controls(m, units), model.controls(m, units));
            }
            case 17 -> {
                int m = movement();
                same("proves(" + m + ")", x.proves(m), model.proves(m));
            }
            case 18 -> {
                int m = movement();
                same("pays(" + m + ")", x.pays(m), model.pays(m));
            }
            case 19, 20, 21 -> {
                int n = random.nextInt(15) == 0 ? 995 + random.nextInt(8) : random.nextInt(30) - (random.nextInt(9) == 0 ? 3 : 0);
                same("hours(" + n + ")", x.hours(n), model.hours(n));
            }
            case 22 -> same("undo()", x.undo(), model.undo());
            default -> {
                if (random.nextInt(3) == 0) {
                    same("keeps()", x.keeps(), model.keeps());
                } else if (random.nextInt(3) == 0) {
                    same("back()", x.back(), model.back());
                }
            }
        }
    }

    private void start() {
        int trader = trader();
        int goods = one(3);
        int units = random.nextInt(20) == 0 ? random.nextInt(3) * 500 : 1 + random.nextInt(30);
        tell(someRoute());
        String call = "starts(" + trader + ", " + goods + ", " + units + ") of " + model.text;
        same(call, x.starts(trader, goods, units), model.starts(trader, goods, units));
    }

    private void ask() {
        int kind = random.nextInt(30);
        int a = office();
        int b = office();
        int m = movement();
        int t = trader();
        int what = random.nextInt(15) - 1;
        switch (kind) {
            case 0 -> same("road(" + a + ", " + b + ")", x.road(a, b), model.road(a, b));
            case 1 -> same("office(" + a + ", " + what % 4 + ")", x.office(a, what % 4), model.office(a, what % 4));
            case 2 -> same("way(" + a + ", " + b + ")", x.way(a, b), model.way(a, b));
            case 3 -> same("routes(" + a + ", " + b + ")", x.routes(a, b), model.routes(a, b));
            case 4 -> same("gates(" + a + ", " + b + ")", x.gates(a, b), model.gates(a, b));
            case 5 -> same("inUse(" + t + ")", x.inUse(t), model.inUse(t));
            case 6 -> same("owes(" + t + ")", x.owes(t), model.owes(t));
            case 7, 8 -> same("movement(" + m + ", " + what + ")", x.movement(m, what), model.movement(m, what));
            case 9 -> same("stop(" + m + ", " + what / 2 + ")", x.stop(m, what / 2), model.stop(m, what / 2));
            case 10 -> same("left(" + m + ")", x.left(m), model.left(m));
            case 11 -> same("borders(" + m + ")", x.borders(m), model.borders(m));
            case 12 -> same("asked(" + m + ")", x.asked(m), model.asked(m));
            case 13 -> same("states(" + what % 7 + ")", x.states(what % 7), model.states(what % 7));
            case 14 -> same("owed(" + what % 7 + ")", x.owed(what % 7), model.owed(what % 7));
            case 15 -> same("late()", x.late(), model.late());
            case 16 -> same("next(" + a + ")", x.next(a), model.next(a));
            case 17 -> same("worth(" + t + ")", x.worth(t), model.worth(t));
            case 18 -> same("busiest()", x.busiest(), model.busiest());
            case 19 -> same("risk(" + m + ")", x.risk(m), model.risk(m));
            case 20 -> same("tightest()", x.tightest(), model.tightest());
            case 21, 22 -> book();
            case 23 -> same("count(" + what + ")", x.count(what), model.count(what));
            default -> askWhatCouldBe(kind, t);
        }
    }

    private void book() {
        int i = random.nextInt(3) == 0 ? random.nextInt(34) - 2 : random.nextInt(Math.max(1, model.count(7)));
        for (int what = random.nextInt(15) == 0 ? -1 : 0; what < 3 || what < 4 && random.nextInt(15) == 0; what++) {
            same("book(" + i + ", " + what + ")", x.book(i, what), model.book(i, what));
        }
    }

    private void askWhatCouldBe(int kind, int t) {
        if (kind < 26 && model.openMovements(t) < 13) {
            // Model tells rows, too, when it is asked for what is free.
            List<Long> row = model.row;
            int s = share(t);
            model.row = row;
            if (kind == 24) {
                same("frees(" + t + ", " + s + ")", x.frees(t, s), model.frees(t, s));
            } else {
                same("when(" + t + ", " + s + ")", x.when(t, s), model.when(t, s));
            }
        } else if (kind == 26) {
            int goods = one(3);
            same("can(" + t + ", " + goods + ")", x.can(t, goods), model.can(t, goods));
        } else if (kind == 27) {
            tell(someRoute());
            String call = "detour() of " + model.text;
            same(call, x.detour(), model.detour());
        } else if (kind > 27) {
            StringBuilder loads = new StringBuilder();
            int many = random.nextInt(random.nextInt(10) == 0 ? 10 : 6);
            for (int i = 0; i < many; i++) {
                loads.append(i == 0 ? "" : ",").append(Math.max(0, one(3))).append(':').append(1 + random.nextInt(random.nextInt(4) == 0 ? 999 : 40));
            }
            tell(spoilt(loads.toString()));
            String call = "fits(" + t + ") of " + model.text;
            same(call, x.fits(t), model.fits(t));
        }
    }
}
