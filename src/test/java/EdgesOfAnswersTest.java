import java.io.IOException;

/** Each sentence of the document's second term: deeds, the ROW, refused calls, and which answer comes first. */
final class EdgesOfAnswersTest {
    private static final int LEAST = Integer.MIN_VALUE;
    private static final int GREATEST = Integer.MAX_VALUE;

    private EdgesOfAnswersTest() {
    }

    public static void main(String[] args) throws IOException {
        Edges e = new Edges("EdgesOfAnswersTest", "Terms 2");
        String terms = "Terms 2";
        e.of(terms, "DEEDS, of which the latest 8 can be undone:", EdgesOfAnswersTest::latestEight);
        e.of(terms, "trader(), sums(), starts(), stamps(), breaks(), controls(), proves(), pays(), hours(), back(), not refused.",
            EdgesOfAnswersTest::deeds);
        e.of(terms, "not refused.", EdgesOfAnswersTest::refusedDeeds);
        e.of(terms, "(The NET stays.)", EdgesOfAnswersTest::theNetStays);
        e.of(terms, "ROW of numbers: told last by a call that says so; at first it has none.", EdgesOfAnswersTest::row);
        e.of(terms, "Calls that ask change nothing but the ROW.", EdgesOfAnswersTest::callsThatAsk);
        e.of(terms, "Refused calls answer NONE, or false, and change nothing but THE TEXT,", EdgesOfAnswersTest::refusedCalls);
        e.of(terms, "Refused calls answer NONE, or false, and change nothing", EdgesOfAnswersTest::refusedQuestions);
        e.of(terms, "THE TEXT, which a call that can read it empties, whatever it answers.", EdgesOfAnswersTest::readTexts);
        e.of(terms, "The ROW stays with each answer below 0,", EdgesOfAnswersTest::rowStaysBelowNought);
        e.of(terms, "and with calls that do not tell of it.", EdgesOfAnswersTest::rowStays);
        e.of(terms, "Of several answers below 0 that fit: -21 - p comes first,", EdgesOfAnswersTest::signsComeFirst);
        e.of(terms, "then NONE, then the others as they are told.", EdgesOfAnswersTest::thenNone);
        e.of(terms, "then the others as they are told.", EdgesOfAnswersTest::thenTheOthers);
        e.of(terms, "NONE: no such OFFICE, GOODS, TRADER, MOVEMENT, too.", EdgesOfAnswersTest::noSuchOffice);
        e.of(terms, "NONE: no such OFFICE, GOODS, TRADER, MOVEMENT, too.", EdgesOfAnswersTest::noSuchGoods);
        e.of(terms, "NONE: no such OFFICE, GOODS, TRADER, MOVEMENT, too.", EdgesOfAnswersTest::noSuchTrader);
        e.of(terms, "NONE: no such OFFICE, GOODS, TRADER, MOVEMENT, too.", EdgesOfAnswersTest::noSuchMovement);
        e.of(terms, "-21 - p: the sign at p of THE TEXT can't stand there: the first sign with which no text as told can begin so far",
            EdgesOfAnswersTest::firstWrongSign);
        e.of(terms, "(p is the number of its signs, if it ends too early);", EdgesOfAnswersTest::endsTooEarly);
        e.of(terms, "a number that can't be: its last digit.", EdgesOfAnswersTest::lastDigits);
        e.of(terms, "Numbers: as many digits as the greatest that may be has, at most,", EdgesOfAnswersTest::manyDigits);
        e.of(terms, "without a nought ahead but 0 itself.", EdgesOfAnswersTest::noughtsAhead);
        e.close();
    }

    // ---- deeds

    private static void latestEight(Check check) {
        Desk d = Desk.at(check, Desk.NET);
        for (int i = 1; i <= 9; i++) {
            d.x.hours(i);
            d.due("count(6) after " + i + " deeds", d.x.count(6), Math.min(i, 8));
        }
        for (int left = 7; left >= 0; left--) {
            d.due("undo()", d.x.undo(), left);
        }
        d.due("count(0): the first deed stays", d.x.count(0), 1);
        d.due("undo() of a ninth", d.x.undo(), -2);
        d.due("count(0)", d.x.count(0), 1);
    }

    private static void deeds(Check check) {
        Desk d = Desk.at(check, Desk.NET);
        d.x.keeps();
        d.x.trader(1000, 0);
        d.due("count(6) behind trader()", d.x.count(6), 1);
        d.x.sums(0, 999, 0);
        d.due("count(6) behind sums()", d.x.count(6), 2);
        d.starts("0-1", 0, 0, 5);
        d.due("count(6) behind starts()", d.x.count(6), 3);
        d.x.breaks(0);
        d.due("count(6) behind breaks()", d.x.count(6), 4);
        d.x.stamps(0, 1);
        d.due("count(6) behind stamps()", d.x.count(6), 5);
        d.x.controls(0, 4);
        d.due("count(6) behind controls()", d.x.count(6), 6);
        d.x.pays(0);
        d.due("count(6) behind pays()", d.x.count(6), 7);
        d.x.back();
        d.due("count(6) behind back()", d.x.count(6), 8);
        for (int left = 7; left >= 0; left--) {
            d.due("undo()", d.x.undo(), left);
        }
        d.x.trader(1000, 0);
        d.starts("0-1", 0, 0, 5);
        d.x.hours(35);
        d.due("count(6) behind hours()", d.x.count(6), 3);
        d.x.proves(0);
        d.due("count(6) behind proves()", d.x.count(6), 4);
        d.due("undo()", d.x.undo(), 3);
        d.due("proves() is undone", d.x.movement(0, 3), 3);
    }

    private static void refusedDeeds(Check check) {
        Desk d = Desk.at(check, Desk.NET, 100, 0);
        d.starts("0-1", 0, 0, 5);
        d.x.trader(-1, 0);
        d.x.sums(0, 49, 0);
        d.x.sums(1, 50, 0);
        d.starts("0-1", 0, 0, 6);
        d.starts("0-1", 0, 0, 0);
        d.starts("0-1-", 0, 0, 1);
        d.x.stamps(0, 2);
        d.x.stamps(0, 9);
        d.x.breaks(1);
        d.x.controls(0, 5);
        d.x.proves(0);
        d.x.pays(0);
        d.x.hours(0);
        d.x.back();
        d.due("count(6): refused, so no deeds", d.x.count(6), 2);
        d.due("undo(): starts()", d.x.undo(), 1);
        d.due("count(5)", d.x.count(5), 0);
    }

    private static void theNetStays(Check check) {
        Desk d = Desk.at(check, Desk.NET, 100, 0);
        d.x.keeps();
        d.x.hours(1);
        d.x.undo();
        d.x.undo();
        d.x.back();
        check.due("the net", d.written(), "00122|0-1:5,0-2:15,1-2:7,1-3:12,2-3:4,3-4:6|10,25");
        d.dueNet("11|0-1:3", 2);
        d.due("undo() behind net()", d.x.undo(), -2);
        d.due("back() behind net()", d.x.back(), -2);
        check.due("the net", d.written(), "11|0-1:3");
    }

    // ---- the row

    private static void row(Check check) {
        Desk d = new Desk(check);
        d.due("count(8) at first", d.x.count(8), 0);
        check.due("row(0) at first", d.hasRow(0), false);
        d.net(Desk.NET);
        d.x.trader(100, 0);
        d.due("way(0, 3)", d.x.way(0, 3), 16, "0 1 2 3");
        d.due("owes(0): a shorter row", d.x.owes(0), 0, "0");
        check.due("row(1)", d.hasRow(1), false);
        d.due("inUse(0): a longer one", d.x.inUse(0), 0, "100 0 100 0");
        d.net("00|");
        d.due("count(8) behind net()", d.x.count(8), 0);
    }

    /** Each of these tells of the row, and changes nothing else. */
    private static void callsThatAsk(Check check) {
        Twins.asks(check, "way(3, 0)", 16, x -> x.way(3, 0));
        Twins.asks(check, "routes(0, 4)", 4, x -> x.routes(0, 4));
        Twins.asks(check, "gates(0, 4)", 8, x -> x.gates(0, 4));
        Twins.asks(check, "inUse(1)", 9, x -> x.inUse(1));
        Twins.asks(check, "owes(1)", 40, x -> x.owes(1));
        Twins.asks(check, "stop(6, 0)", 0, x -> x.stop(Twins.ROLLING, 0));
        Twins.asks(check, "left(6)", 16, x -> x.left(Twins.ROLLING));
        Twins.asks(check, "borders(6)", 2, x -> x.borders(Twins.ROLLING));
        Twins.asks(check, "asked(5)", 0, x -> x.asked(Twins.SOUGHT));
        Twins.asks(check, "states(3)", 40, x -> x.states(3));
        Twins.asks(check, "owed(0)", 40, x -> x.owed(0));
        Twins.asks(check, "late()", 0, x -> x.late());
        Twins.asks(check, "next(1)", 72, x -> x.next(1));
        Twins.asks(check, "worth(0)", 400, x -> x.worth(0));
        Twins.asks(check, "busiest()", 1, x -> x.busiest());
        Twins.asks(check, "can(0, 0)", 60, x -> x.can(0, 0));
        Twins.asks(check, "frees(0, 601)", 1, x -> x.frees(0, 601));
        Twins.asksText(check, "fits(0)", "0:60,1:1", 1, x -> x.fits(0));
        Twins.asksText(check, "detour()", "0-2", 3, x -> x.detour());
        Twins.asks(check, "risk(6)", 150, x -> x.risk(Twins.ROLLING));
        Twins.asks(check, "tightest()", 0, x -> x.tightest());
        // These tell of no row, so that the row stays, too.
        Twins.refused(check, "road(0, 1)", 5, x -> x.road(0, 1));
        Twins.refused(check, "office(0, 2)", 72, x -> x.office(0, 2));
        Twins.refused(check, "movement(6, 6)", 116, x -> x.movement(Twins.ROLLING, 6));
        Twins.refused(check, "when(0, 601)", 76, x -> x.when(0, 601));
        Twins.refused(check, "book(0, 2)", 60, x -> x.book(0, 2));
        Twins.refused(check, "written(-1)", 49, x -> x.written(-1));
        Twins.refused(check, "count(0)", 60, x -> x.count(0));
        Twins.refused(check, "row(3)", 3, x -> x.row(3));
    }

    private static void rowStays(Check check) {
        Desk d = Desk.at(check, Desk.NET, 100, 0);
        d.x.way(0, 3);
        String row = "0 1 2 3";
        d.due("sign(0)", d.x.sign(0), 4, row);
        d.due("end(0)", d.x.end(0) ? 1 : 0, 1, row);
        d.due("road(0, 1)", d.x.road(0, 1), 5, row);
        d.due("office(0, 1)", d.x.office(0, 1), 2, row);
        d.due("trader(50, 1)", d.x.trader(50, 1), 1, row);
        d.due("sums(1, 60, 1)", d.x.sums(1, 60, 1), 0, row);
        d.due("starts()", d.starts("0-1", 0, 0, 5), 0, row);
        d.due("starts()", d.starts("0-1", 0, 0, 4), 1, row);
        d.due("breaks(0)", d.x.breaks(0), 1, row);
        d.due("stamps(0, 1)", d.x.stamps(0, 1), 0, row);
        d.due("controls(0, 4)", d.x.controls(0, 4), 20, row);
        d.due("pays(0)", d.x.pays(0), 20, row);
        d.due("hours(35)", d.x.hours(35), 1, row);
        d.due("proves(1)", d.x.proves(1), 0, row);
        d.due("movement(0, 0)", d.x.movement(0, 0), 0, row);
        d.due("when(0, 0)", d.x.when(0, 0), 35, row);
        d.due("book(0, 0)", d.x.book(0, 0), 3, row);
        d.due("written(0)", d.x.written(0), '0', row);
        d.due("keeps()", d.x.keeps(), 35, row);
        d.due("undo()", d.x.undo(), 7, row);
        d.due("back()", d.x.back(), 35, row);
        d.due("count(8)", d.x.count(8), 4, row);
    }

    private static void rowStaysBelowNought(Check check) {
        Twins.refused(check, "way(0, 5)", -1, x -> x.way(0, 5));
        Twins.refused(check, "routes(0, 0)", -1, x -> x.routes(0, 0));
        Twins.refused(check, "gates(0, 0)", -1, x -> x.gates(0, 0));
        Twins.refused(check, "asked(6)", -2, x -> x.asked(Twins.ROLLING));
        Twins.refused(check, "risk(0)", -2, x -> x.risk(Twins.CLOSED));
        Twins.refused(check, "frees(0, 1001)", -2, x -> x.frees(0, 1001));
        Twins.refused(check, "when(0, 1001)", -2, x -> x.when(0, 1001));
        Twins.refusedText(check, "fits(0)", "0:0", -23, x -> x.fits(0));
        Twins.refusedText(check, "detour()", "0-3", -23, x -> x.detour());
        Desk d = Desk.at(check, "000|0-1:4|1");
        d.due("way(1, 0)", d.x.way(1, 0), 4, "1 0");
        d.due("way(0, 2): there is none", d.x.way(0, 2), -2, "1 0");
        d.due("routes(0, 2): there is none", d.x.routes(0, 2), -2, "1 0");
        d.due("gates(0, 2): there is none", d.x.gates(0, 2), -2, "1 0");
        d.due("busiest() of none", d.x.busiest(), -2, "1 0");
        d.due("tightest() of none", d.x.tightest(), -2, "1 0");
        d.due("undo() of none", d.x.undo(), -2, "1 0");
        d.due("back() of none", d.x.back(), -2, "1 0");
        d.due("net() of a wrong text", d.net("0"), -22, "1 0");
    }

    // ---- refused calls

    private static void refusedCalls(Check check) {
        Twins.refused(check, "end(9)", 0, x -> x.end(9) ? 1 : 0);
        Twins.refused(check, "end(-1)", 0, x -> x.end(-1) ? 1 : 0);
        Twins.refused(check, "trader(1000000, 0)", -1, x -> x.trader(1000000, 0));
        Twins.refused(check, "sums(0, 399, 0)", -2, x -> x.sums(0, 399, 0));
        Twins.refused(check, "sums(0, 400, 4)", -1, x -> x.sums(0, 400, 4));
        Twins.refused(check, "stamps(6, 2)", -3, x -> x.stamps(Twins.ROLLING, 2));
        Twins.refused(check, "stamps(4, 1)", -2, x -> x.stamps(Twins.ARRIVED, 1));
        Twins.refused(check, "stamps(6, 5)", -1, x -> x.stamps(Twins.ROLLING, 5));
        Twins.refused(check, "breaks(3)", -3, x -> x.breaks(Twins.SOUGHT_BROKEN));
        Twins.refused(check, "breaks(4)", -2, x -> x.breaks(Twins.ARRIVED));
        Twins.refused(check, "breaks(7)", -1, x -> x.breaks(Twins.MOVEMENTS));
        Twins.refused(check, "controls(4, 4)", -1, x -> x.controls(Twins.ARRIVED, 4));
        Twins.refused(check, "controls(6, 0)", -2, x -> x.controls(Twins.ROLLING, 0));
        Twins.refused(check, "proves(3)", -3, x -> x.proves(Twins.SOUGHT_BROKEN));
        Twins.refused(check, "proves(6)", -2, x -> x.proves(Twins.ROLLING));
        Twins.refused(check, "proves(7)", -1, x -> x.proves(Twins.MOVEMENTS));
        Twins.refused(check, "pays(1)", -2, x -> x.pays(Twins.PAID));
        Twins.refused(check, "pays(7)", -1, x -> x.pays(Twins.MOVEMENTS));
        Twins.refused(check, "hours(0)", -1, x -> x.hours(0));
        Twins.refused(check, "hours(1000)", -1, x -> x.hours(1000));
    }

    private static void refusedQuestions(Check check) {
        Twins.refused(check, "road(0, 3)", -2, x -> x.road(0, 3));
        Twins.refused(check, "road(5, 0)", -1, x -> x.road(5, 0));
        Twins.refused(check, "office(0, 3)", -1, x -> x.office(0, 3));
        Twins.refused(check, "inUse(3)", -1, x -> x.inUse(Twins.TRADERS));
        Twins.refused(check, "owes(3)", -1, x -> x.owes(Twins.TRADERS));
        Twins.refused(check, "movement(0, 13)", -1, x -> x.movement(0, 13));
        Twins.refused(check, "stop(0, 2)", -1, x -> x.stop(0, 2));
        Twins.refused(check, "left(7)", -1, x -> x.left(Twins.MOVEMENTS));
        Twins.refused(check, "borders(7)", -1, x -> x.borders(Twins.MOVEMENTS));
        Twins.refused(check, "asked(7)", -1, x -> x.asked(Twins.MOVEMENTS));
        Twins.refused(check, "states(6)", -1, x -> x.states(6));
        Twins.refused(check, "owed(6)", -1, x -> x.owed(6));
        Twins.refused(check, "next(5)", -1, x -> x.next(5));
        Twins.refused(check, "worth(3)", -1, x -> x.worth(Twins.TRADERS));
        Twins.refused(check, "can(0, 2)", -1, x -> x.can(0, Twins.GOODS));
        Twins.refused(check, "frees(0, -1)", -1, x -> x.frees(0, -1));
        Twins.refused(check, "when(0, -1)", -1, x -> x.when(0, -1));
        Twins.refused(check, "risk(7)", -1, x -> x.risk(Twins.MOVEMENTS));
        Twins.refused(check, "book(0, 3)", -1, x -> x.book(0, 3));
        Twins.refused(check, "written(49)", -1, x -> x.written(49));
        Twins.refused(check, "count(11)", -1, x -> x.count(11));
    }

    private static void readTexts(Check check) {
        Twins.refusedText(check, "net()", "00|0-1:9,1-0:9", -32, x -> x.net());
        Twins.refusedText(check, "starts(0, 0, 1)", "0-1-", -25, x -> x.starts(0, 0, 1));
        Twins.refusedText(check, "starts(0, 0, 0)", "0-1", -1, x -> x.starts(0, 0, 0));
        Twins.refusedText(check, "starts(0, 0, 61)", "0-1", -3, x -> x.starts(0, 0, 61));
        Twins.refusedText(check, "fits(0)", "0:1;", -24, x -> x.fits(0));
        Twins.refusedText(check, "fits(3)", "0:1", -1, x -> x.fits(Twins.TRADERS));
        Twins.refusedText(check, "detour()", "0-1-0", -25, x -> x.detour());
        Desk d = Desk.at(check, Desk.NET, 100, 0);
        d.text("0-1");
        d.x.starts(0, 0, 1);
        d.due("count(9) behind starts()", d.x.count(9), 0);
        d.text("0:1");
        d.x.fits(0);
        d.due("count(9) behind fits()", d.x.count(9), 0);
        d.text("0-1");
        d.x.detour();
        d.due("count(9) behind detour()", d.x.count(9), 0);
        d.text("00|");
        d.x.net();
        d.due("count(9) behind net()", d.x.count(9), 0);
    }

    // ---- several answers

    private static void signsComeFirst(Check check) {
        Desk d = Desk.at(check, Desk.NET, 100, 0);
        d.dueStarts("0-3", 1, 0, 1, -23);
        d.dueStarts("0-3", 0, 2, 1, -23);
        d.dueStarts("0-3", 0, 0, 0, -23);
        d.dueStarts("0-3", 0, 0, 11, -23);
        d.dueStarts("0", 9, 9, 1000, -22);
        d.dueFits("0:1,", 1, -25);
        for (int m = 0; m < 20; m++) {
            d.x.sums(0, 10 * (m + 1), 0);
            d.dueStarts("0-1", 0, 0, 1, m);
        }
        d.dueStarts("0-3", 0, 0, 1, -23);
        d.dueStarts("", 0, 0, 999, -21);
    }

    private static void thenNone(Check check) {
        Desk d = Desk.at(check, Desk.NET, 100, 0, 1, 0, 1, 0, 1, 0, 1, 0, 1, 0);
        d.due("a 7th trader, of a sum below 0", d.x.trader(-1, 0), -1);
        d.due("a 7th trader, of no level", d.x.trader(0, 4), -1);
        d.dueStarts("0-1", 0, 0, 1000, -1);
        d.dueStarts("0-1", 6, 0, 999, -1);
        d.dueStarts("0-1", 0, 2, 999, -1);
        d.dueStarts("0-1", 0, 0, 10, 0);
        d.due("sums(0, 99, 4): less than is in use, and no level", d.x.sums(0, 99, 4), -1);
        d.due("sums(0, -1, 0): less than is in use, and no sum", d.x.sums(0, -1, 0), -1);
        d.due("stamps(0, 5): another office is the next, and no such office", d.x.stamps(0, 5), -1);
        d.due("controls(0, 11): not arrived, and more than its units", d.x.controls(0, 11), -1);
        d.stamps(0, 1);
        d.due("stamps(0, -1): arrived, and no such office", d.x.stamps(0, -1), -1);
        d.due("frees(6, 999999): no trader, and never so", d.x.frees(6, 999999), -1);
        d.due("when(6, 999999): no trader, and never so", d.x.when(6, 999999), -1);
        d.due("routes(4, 4): they are one, and none leads there", d.x.routes(4, 4), -1);
        d.due("gates(4, 4): they are one, and none leads there", d.x.gates(4, 4), -1);
        d.due("road(0, 5): no such office, and no road", d.x.road(0, 5), -1);
        d.due("way(0, 5): no such office, and no way", d.x.way(0, 5), -1);
    }

    private static void thenTheOthers(Check check) {
        Desk d = Desk.at(check, Desk.NET, 200, 0);
        for (int m = 0; m < 20; m++) {
            d.dueStarts("0-1", 0, 0, 1, m);
        }
        d.dueStarts("0-1", 0, 0, 1, -2);
        d.x.breaks(0);
        d.stamps(0, 1);
        d.due("stamps(0, 0): it is arrived, and another office", d.x.stamps(0, 0), -2);
        d.due("breaks(0): it is arrived, and broken", d.x.breaks(0), -2);
        d.x.breaks(1);
        d.due("proves(1): it is rolling, and broken", d.x.proves(1), -2);
    }

    // ---- no such ...

    private static void none(Desk d, String call, long got) {
        d.due(call, got, -1);
    }

    private static void noSuchOffice(Check check) {
        for (int o : new int[] {LEAST, -1, Twins.OFFICES, GREATEST}) {
            Desk d = Twins.busy(check);
            none(d, "road(" + o + ", 0)", d.x.road(o, 0));
            none(d, "road(0, " + o + ")", d.x.road(0, o));
            none(d, "office(" + o + ", 0)", d.x.office(o, 0));
            none(d, "way(" + o + ", 0)", d.x.way(o, 0));
            none(d, "way(0, " + o + ")", d.x.way(0, o));
            none(d, "way(" + o + ", " + o + ")", d.x.way(o, o));
            none(d, "routes(" + o + ", 0)", d.x.routes(o, 0));
            none(d, "routes(0, " + o + ")", d.x.routes(0, o));
            none(d, "gates(" + o + ", 0)", d.x.gates(o, 0));
            none(d, "gates(0, " + o + ")", d.x.gates(0, o));
            none(d, "stamps(6, " + o + ")", d.x.stamps(Twins.ROLLING, o));
            none(d, "next(" + o + ")", d.x.next(o));
        }
        Desk d = Twins.busy(check);
        d.due("road(4, 3), the last office", d.x.road(4, 3), 6);
        d.due("office(4, 0), the last office", d.x.office(4, 0), 2);
        d.due("next(4), the last office", d.x.next(4), 0);
    }

    private static void noSuchGoods(Check check) {
        for (int g : new int[] {LEAST, -1, Twins.GOODS, GREATEST}) {
            Desk d = Twins.busy(check);
            none(d, "can(0, " + g + ")", d.x.can(0, g));
            d.dueStarts("0-1", 0, g, 1, -1);
        }
        Desk d = Twins.busy(check);
        d.due("can(0, 1), the last goods", d.x.can(0, 1), 24);
        d.dueStarts("0-1", 0, 1, 1, Twins.MOVEMENTS);
        d.net("00|0-1:1");
        d.x.trader(5, 0);
        d.due("can(0, 0) where there are no goods", d.x.can(0, 0), -1);
        d.dueStarts("0-1", 0, 0, 1, -1);
    }

    private static void noSuchTrader(Check check) {
        for (int t : new int[] {LEAST, -1, Twins.TRADERS, GREATEST}) {
            Desk d = Twins.busy(check);
            none(d, "sums(" + t + ", 5, 0)", d.x.sums(t, 5, 0));
            none(d, "inUse(" + t + ")", d.x.inUse(t));
            none(d, "owes(" + t + ")", d.x.owes(t));
            none(d, "worth(" + t + ")", d.x.worth(t));
            none(d, "can(" + t + ", 0)", d.x.can(t, 0));
            none(d, "frees(" + t + ", 0)", d.x.frees(t, 0));
            none(d, "when(" + t + ", 0)", d.x.when(t, 0));
            d.dueStarts("0-1", t, 0, 1, -1);
            d.dueFits("0:1", t, -1);
        }
        Desk d = Twins.busy(check);
        d.due("inUse(2), the last trader", d.x.inUse(2), 0, "0 3 0 16");
        d.due("worth(2), the last trader", d.x.worth(2), 75);
        d.dueStarts("0-1", 2, 0, 1, Twins.MOVEMENTS);
    }

    private static void noSuchMovement(Check check) {
        for (int m : new int[] {LEAST, -1, Twins.MOVEMENTS, 19, 20, GREATEST}) {
            Desk d = Twins.busy(check);
            none(d, "stamps(" + m + ", 1)", d.x.stamps(m, 1));
            none(d, "breaks(" + m + ")", d.x.breaks(m));
            none(d, "controls(" + m + ", 0)", d.x.controls(m, 0));
            none(d, "proves(" + m + ")", d.x.proves(m));
            none(d, "pays(" + m + ")", d.x.pays(m));
            none(d, "movement(" + m + ", 0)", d.x.movement(m, 0));
            none(d, "stop(" + m + ", 0)", d.x.stop(m, 0));
            none(d, "left(" + m + ")", d.x.left(m));
            none(d, "borders(" + m + ")", d.x.borders(m));
            none(d, "asked(" + m + ")", d.x.asked(m));
            none(d, "risk(" + m + ")", d.x.risk(m));
        }
        Desk d = Twins.busy(check);
        d.due("movement(6, 2), the last movement", d.x.movement(6, 2), 6);
        d.x.undo();
        none(d, "movement(6, 2), undone", d.x.movement(6, 2));
    }

    // ---- texts

    private static final String NET_TEXT = "0012|0-1:5,1-2:7|10,25";

    private static String with(String text, int at, char sign) {
        return text.substring(0, at) + sign + text.substring(at + 1);
    }

    /** Signs that stand nowhere in a text: the least and the greatest one, and those next to the digits. */
    private static final char[] NOWHERE = {0, '/', ';', 'x', 127, 128, 255};

    private static void firstWrongSign(Check check) {
        Desk d = Desk.at(check, EdgesOfTermsTest.LINE, 9, 0);
        for (char sign : NOWHERE) {
            for (String route : new String[] {"0-1", "1-2-3", "0-1-2-3-4-5-6-7"}) {
                for (int p = 0; p < route.length(); p++) {
                    d.dueDetour(with(route, p, sign), -21 - p);
                }
                d.dueDetour(route + sign, -21 - route.length());
            }
            d = Desk.at(check, EdgesOfTermsTest.LINE, 9, 0);
        }
        for (char sign : NOWHERE) {
            d = Desk.at(check, Desk.NET, 9, 0);
            for (int p = 0; p < NET_TEXT.length(); p++) {
                d.dueNet(with(NET_TEXT, p, sign), -21 - p);
            }
            d.dueNet(NET_TEXT + sign, -21 - NET_TEXT.length());
            String loads = "0:999,1:5";
            for (int p = 0; p < loads.length(); p++) {
                d.dueFits(with(loads, p, sign), 0, -21 - p);
            }
            d.dueFits(loads + sign, 0, -21 - loads.length());
        }
        d.dueNet("xx|", -21);
        d.dueNet("0x|x", -22);
    }

    private static void endsTooEarly(Check check) {
        Desk d = Desk.at(check, Desk.NET, 9, 0);
        // Of the beginnings of this net these are nets themselves: 0012| and those up to a road's hours or a duty.
        boolean[] whole = new boolean[NET_TEXT.length() + 1];
        for (int length : new int[] {5, 10, 16, 18, 19, 21, 22}) {
            whole[length] = true;
        }
        for (int length = 0; length < whole.length; length++) {
            d.dueNet(NET_TEXT.substring(0, length), whole[length] ? 4 : -21 - length);
        }
        d = Desk.at(check, EdgesOfTermsTest.LINE, 9, 0);
        d.dueDetour("", -21);
        d.dueDetour("1", -22);
        d.dueDetour("1-", -23);
        d.dueDetour("1-2", 0);
        d.dueDetour("1-2-", -25);
        d.dueFits("", 0, 0);
        d.dueFits("0", 0, -22);
        d.dueFits("0:", 0, -23);
        d.dueFits("0:1", 0, 1);
        d.dueFits("0:1,", 0, -25);
        // Nothing more could follow here, but the text ends: that is told.
        d.dueNet("00|0-1:9,", -30);
        d.dueNet("00|0-1:9", 2);
        d.dueDetour("0-1-", -25);
    }

    private static void lastDigits(Check check) {
        Desk d = Desk.at(check, "000000000000|0-1:1,1-10:1,10-11:1|1,2", 9, 0);
        d.dueDetour("12-1", -22);
        d.dueDetour("99-1", -22);
        d.dueDetour("10-12", -25);
        d.dueDetour("10-0", -24);
        d.dueDetour("0-11", -24);
        d.dueDetour("1-10-11-10", -21 - 9);
        d.dueFits("2:1", 0, -21);
        d.dueFits("0:0", 0, -23);
        d.dueFits("0:00", 0, -23);
        d.dueNet("000000000000|11-12:1", -21 - 17);
        d.dueNet("000000000000|10-10:1", -21 - 17);
        d.dueNet("000000000000|20-1:1", -21 - 14);
        d.dueNet("00|0-1:0", -28);
        d.dueNet("00||0", -25);
        d.dueNet("00||1,0", -27);
    }

    private static void manyDigits(Check check) {
        Desk d = new Desk(check);
        d.dueNet("00|0-1:990", -30);
        d.dueNet("00||9990", -28);
        d.dueNet("0000000000|10-1:1", -21 - 12);
        d.dueNet("00000000000|10-1:1", 11);
        d.dueNet("00000000000|100-1:1", -21 - 14);
        d.dueNet("0000000000|8-9:1|1", 10);
        d.x.trader(9, 0);
        // Of ten offices no number has two digits, so that the first 9, told already, is refused.
        d.dueDetour("9-99", -23);
        d.dueDetour("99-8", -22);
        d.dueDetour("9-88", -24);
        d.dueDetour("9-8", 0);
        d.dueFits("0:9990", 0, -26);
        d.dueFits("0:999", 0, 0);
        d.dueFits("11:1", 0, -21);
        d.dueNet("00||1,1,1,1,1,1", 2);
        d.x.trader(9, 0);
        d.dueFits("55:1", 0, -22);
        d.dueFits("5:1", 0, 1);
        d.dueNet("00000000000|9-10:1|1", 11);
        d.dueDetour("9-99", -24);
        d.dueDetour("9-100", -25);
        d.dueDetour("9-10", 0);
    }

    private static void noughtsAhead(Check check) {
        Desk d = Desk.at(check, EdgesOfTermsTest.LINE, 9, 0);
        d.dueDetour("00-1", -22);
        d.dueDetour("01-1", -22);
        d.dueDetour("1-00", -24);
        d.dueDetour("1-02", -24);
        d.dueDetour("1-0", 0);
        d.dueFits("00:1", 0, -22);
        d.dueFits("0:01", 0, -23);
        d.dueFits("0:1", 0, 1);
        d.dueNet("00|00-1:1", -25);
        d.dueNet("00|1-00:1", -27);
        d.dueNet("00|0-01:1", -26);
        d.dueNet("00|0-1:01", -28);
        d.dueNet("00||01", -25);
        d.dueNet("00|1-0:10|10", 2);
    }
}
