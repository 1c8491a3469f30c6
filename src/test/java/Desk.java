import java.nio.charset.StandardCharsets;
import java.util.NoSuchElementException;

/** A new object at which texts are told as Strings, and rows looked at whole. */
final class Desk {
    static final String NET = "00122|0-1:5,1-2:7,2-3:4,0-2:15,3-4:6,1-3:12|10,25";

    final TransitSeals x = new TransitSeals();
    private final Check check;

    Desk(Check check) {
        this.check = check;
    }

    /** A new object with a net and traders, each a sum and a level. */
    static Desk at(Check check, String net, int... traders) {
        Desk desk = new Desk(check);
        desk.text(net);
        desk.x.net();
        for (int i = 0; i + 1 < traders.length; i += 2) {
            desk.x.trader(traders[i], traders[i + 1]);
        }
        return desk;
    }

    void text(String text) {
        byte[] signs = text.getBytes(StandardCharsets.ISO_8859_1);
        x.end(0);
        for (int i = 0; i < signs.length; i += 4) {
            int four = 0;
            for (int k = i; k < i + 4; k++) {
                four = four << 8 | (k < signs.length ? signs[k] & 255 : 0);
            }
            x.sign(four);
        }
        x.end(signs.length);
    }

    int net(String text) {
        text(text);
        return x.net();
    }

    int starts(String route, int trader, int goods, int units) {
        text(route);
        return x.starts(trader, goods, units);
    }

    int fits(String loads, int trader) {
        text(loads);
        return x.fits(trader);
    }

    int detour(String route) {
        text(route);
        return x.detour();
    }

    void dueNet(String text, long want) {
        check.due("net() of " + text, net(text), want);
    }

    void dueStarts(String route, int trader, int goods, int units, long want) {
        String call = "starts(" + trader + ", " + goods + ", " + units + ") of " + route;
        check.due(call, starts(route, trader, goods, units), want);
    }

    void dueFits(String loads, int trader, long want) {
        check.due("fits(" + trader + ") of " + loads, fits(loads, trader), want);
    }

    void dueDetour(String route, long want) {
        check.due("detour() of " + route, detour(route), want);
    }

    /** Entries of the book, the latest first, as book(i) tells them. */
    void dueBook(String... entries) {
        for (int i = 0; i < entries.length; i++) {
            check.due("book(" + i + ")", book(i), entries[i]);
        }
    }

    /** Stamps of a movement at all these offices. */
    void stamps(int movement, int... offices) {
        for (int office : offices) {
            check.due("stamps(" + movement + ", " + office + ") is not refused", x.stamps(movement, office) >= 0, true);
        }
    }

    String written() {
        StringBuilder written = new StringBuilder();
        int many = x.written(TransitSeals.NONE);
        for (int i = 0; i < many; i++) {
            written.append((char) x.written(i));
        }
        return written.toString();
    }

    String row() {
        StringBuilder row = new StringBuilder();
        int many = x.count(8);
        for (int i = 0; i < many; i++) {
            row.append(i == 0 ? "" : " ").append(x.row(i));
        }
        return row.toString();
    }

    boolean hasRow(int i) {
        try {
            x.row(i);
            return true;
        } catch (NoSuchElementException e) {
            return false;
        }
    }

    /** Entry i of the book: what, movement, hour. */
    String book(int i) {
        return x.book(i, 0) + " " + x.book(i, 1) + " " + x.book(i, 2);
    }

    void due(String call, long got, long want) {
        check.due(call, got, want);
    }

    void due(String call, long got, long want, String row) {
        check.due(call, got, want);
        check.due(call + ", its row", row(), row);
    }
}
