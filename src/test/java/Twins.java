import java.util.ArrayList;
import java.util.List;

/**
 * Two objects used alike, but for one call. What both answer then is compared, as long as 512 calls suffice: so a call
 * that must change nothing is seen to change nothing.
 */
final class Twins {
    interface Call {
        long of(TransitSeals x);
    }

    /** THE TEXT of a busy desk: a net, so that what is left of it can be read. */
    static final String TEXT = "00|0-1:7";
    /** The ROW of a busy desk. */
    static final String ROW = "0 1 2 3";

    // Movements of a busy desk, by what they are.
    static final int CLOSED = 0;
    static final int PAID = 1;
    static final int OWED = 2;
    static final int SOUGHT_BROKEN = 3;
    static final int ARRIVED = 4;
    static final int SOUGHT = 5;
    static final int ROLLING = 6;
    static final int MOVEMENTS = 7;
    static final int TRADERS = 3;
    static final int OFFICES = 5;
    static final int GOODS = 2;

    private Twins() {
    }

    /** A movement in each state, eight deeds and more, a state that is kept, a row, a text. */
    static Desk busy(Check check) {
        Desk d = Desk.at(check, Desk.NET, 1000, 0, 500, 2, 0, 3);
        d.starts("0-1", 0, 0, 10);
        d.starts("0-1", 0, 1, 4);
        d.starts("0-1", 1, 0, 9);
        d.starts("0-1-2", 0, 0, 20);
        d.starts("2-1", 2, 1, 3);
        d.starts("3-2-1", 0, 0, 5);
        d.stamps(CLOSED, 1);
        d.stamps(PAID, 1);
        d.stamps(OWED, 1);
        d.stamps(ARRIVED, 1);
        d.x.controls(CLOSED, 10);
        d.x.controls(PAID, 0);
        d.x.controls(OWED, 5);
        d.x.pays(PAID);
        d.x.breaks(SOUGHT_BROKEN);
        d.x.hours(60);
        d.x.keeps();
        d.starts("0-1-2-3", 0, 1, 6);
        d.x.way(0, 3);
        d.text(TEXT);
        return d;
    }

    /** A call with an answer that is below 0, or false: all stays. */
    static void refused(Check check, String call, long want, Call c) {
        Desk with = busy(check);
        check.due(call, c.of(with.x), want);
        same(check, call, photo(with, true), photo(busy(check), true));
    }

    /** A call that reads the text, with an answer below 0: all stays, but the text is empty. */
    static void refusedText(Check check, String call, String text, long want, Call c) {
        Desk with = busy(check);
        with.text(text);
        check.due(call + " of " + text, c.of(with.x), want);
        Desk without = busy(check);
        without.x.end(0);
        same(check, call + " of " + text, photo(with, true), photo(without, true));
    }

    /** A call that asks, and tells of the row. */
    static void asks(Check check, String call, long want, Call c) {
        Desk with = busy(check);
        check.due(call, c.of(with.x), want);
        same(check, call, photo(with, false), photo(busy(check), false));
    }

    /** A call that reads the text, asks, and tells of the row. */
    static void asksText(Check check, String call, String text, long want, Call c) {
        Desk with = busy(check);
        with.text(text);
        check.due(call + " of " + text, c.of(with.x), want);
        Desk without = busy(check);
        without.x.end(0);
        same(check, call + " of " + text, photo(with, false), photo(without, false));
    }

    /** All that deeds change, told so that the row and what can be undone don't matter. */
    static String ledger(Desk d) {
        List<String> lines = new ArrayList<>();
        lines.add("hour " + d.x.count(0) + ", traders " + d.x.count(4) + ", movements " + d.x.count(5));
        ledger(d, lines);
        return String.join("; ", lines);
    }

    private static void same(Check check, String call, List<String> with, List<String> without) {
        String got = "";
        String want = "";
        for (int i = 0; i < without.size() && got.equals(want); i++) {
            want = without.get(i);
            got = i < with.size() ? with.get(i) : "nothing";
        }
        check.due("behind " + call + " something", got, want);
    }

    /** What an object answers; what changes its state comes last. */
    private static List<String> photo(Desk d, boolean withRow) {
        List<String> lines = new ArrayList<>();
        lines.add(withRow ? "the row " + d.row() : "");
        for (int what = 0; what < 11; what++) {
            lines.add(what == 8 ? "" : "count(" + what + ") " + d.x.count(what));
        }
        lines.add("the net " + d.written());
        ledger(d, lines);
        undone(d, lines);
        lines.add("back() " + d.x.back() + ": " + standing(d));
        // The text can be seen only by reading it, so a net that was told is looked for last.
        lines.add("net() of the text " + d.x.net() + ": " + d.written());
        return lines;
    }

    private static void ledger(Desk d, List<String> lines) {
        for (int t = 0; t < TRADERS; t++) {
            lines.add("inUse(" + t + ") " + d.x.inUse(t) + ": " + d.row());
            lines.add("owes(" + t + ") " + d.x.owes(t) + ": " + d.row());
        }
        for (int m = 0; m < MOVEMENTS; m++) {
            movement(d, m, lines);
        }
        for (int i = 0; i < 10; i++) {
            lines.add("book(" + i + ") " + d.book(i));
        }
    }

    private static void movement(Desk d, int m, List<String> lines) {
        StringBuilder line = new StringBuilder("movement " + m + ":");
        for (int what = 0; what < 13; what++) {
            line.append(' ').append(d.x.movement(m, what));
        }
        for (int k = 0; d.x.stop(m, k) >= 0 && k < 8; k++) {
            line.append(", ").append(d.x.row(0));
        }
        lines.add(line.toString());
    }

    private static void undone(Desk d, List<String> lines) {
        for (int i = 0; i < 9; i++) {
            lines.add("undo() " + d.x.undo() + ": " + standing(d));
        }
    }

    private static String standing(Desk d) {
        return d.x.count(0) + " " + d.x.count(4) + " " + d.x.count(5) + " " + d.x.count(7) + " " + d.x.inUse(0);
    }
}
