import java.io.IOException;

/** Each sentence of promises 14 to 20: movements and hours. */
final class EdgesOfMovementsTest {
    private static final String LINE = EdgesOfTermsTest.LINE;

    private EdgesOfMovementsTest() {
    }

    public static void main(String[] args) throws IOException {
        Edges e = new Edges("EdgesOfMovementsTest", "Promise 14", "Promise 15", "Promise 16", "Promise 17", "Promise 18",
            "Promise 19", "Promise 20");
        starts(e);
        e.of("Promise 15", "The next OFFICE of its ROUTE STAMPS one that is ROLLING, or SOUGHT (it stays so): how many OFFICES are left.",
            EdgesOfMovementsTest::officesLeft);
        e.of("Promise 15", "With the last one it is ARRIVED.", EdgesOfMovementsTest::theLastStamp);
        e.of("Promise 15", "-2: it is neither;", EdgesOfMovementsTest::stampsOfNeither);
        e.of("Promise 15", "-3: another OFFICE is the next.", EdgesOfMovementsTest::anotherOfficeIsNext);
        e.of("Promise 16", "The SEAL of one that is ROLLING or SOUGHT breaks: how many are broken of all MOVEMENTS.",
            EdgesOfMovementsTest::howManyAreBroken);
        e.of("Promise 16", "-2: it is neither;", EdgesOfMovementsTest::breaksOfNeither);
        e.of("Promise 16", "-3: it is broken.", EdgesOfMovementsTest::itIsBroken);
        e.of("Promise 17", "One that is ARRIVED is controlled: so many UNITS (0 to UNITS) are there: it is CLOSED, if that is all,",
            EdgesOfMovementsTest::allAreThere);
        e.of("Promise 17", "else OWED: DEBT is DUTY of those missing (twice, if its SEAL is broken): DEBT.", EdgesOfMovementsTest::someAreMissing);
        e.of("Promise 17", "NONE: another number, too;", EdgesOfMovementsTest::anotherNumberOfUnits);
        e.of("Promise 17", "-2: it is not ARRIVED.", EdgesOfMovementsTest::notArrived);
        e.of("Promise 18", "One that is SOUGHT is proved to be where it should: it is CLOSED: its STEP.", EdgesOfMovementsTest::proved);
        e.of("Promise 18", "-2: it is not SOUGHT;", EdgesOfMovementsTest::notSought);
        e.of("Promise 18", "-3: its SEAL is broken.", EdgesOfMovementsTest::provesOfOneBroken);
        e.of("Promise 19", "One that is OWED is PAID: DEBT.", EdgesOfMovementsTest::paid);
        e.of("Promise 19", "-2: it is not.", EdgesOfMovementsTest::notOwed);
        e.of("Promise 20", "n HOURS (1 .. 999) go by: how many MOVEMENTS became SOUGHT or OWED by it.", EdgesOfMovementsTest::hoursGoBy);
        e.of("Promise 20", "how many MOVEMENTS became SOUGHT or OWED by it.", EdgesOfMovementsTest::howManyBecame);
        e.of("Promise 20", "NONE: another n;", EdgesOfMovementsTest::anotherNumberOfHours);
        e.of("Promise 20", "HOUR would be above 99999.", EdgesOfMovementsTest::aboveTheLastHour);
        e.close();
    }

    private static void starts(Edges e) {
        String starts = "Promise 14";
        e.of(starts, "THE TEXT is a ROUTE (OFFICES with - between, as 0-3-11);", EdgesOfMovementsTest::aRoute);
        e.of(starts, "a MOVEMENT starts now: its number.", EdgesOfMovementsTest::startsNow);
        e.of(starts, "-21 - p (an OFFICE there is none of,", EdgesOfMovementsTest::noSuchOffice);
        e.of(starts, "one told already,", EdgesOfMovementsTest::toldAlready);
        e.of(starts, "one without a ROAD from the one ahead: its last digit;", EdgesOfMovementsTest::withoutARoad);
        e.of(starts, "a 9th OFFICE: the - ahead of it);", EdgesOfMovementsTest::a9thOffice);
        e.of(starts, "NONE: UNITS, too;", EdgesOfMovementsTest::units);
        e.of(starts, "-2: there are 20;", EdgesOfMovementsTest::thereAreTwenty);
        e.of(starts, "-3: more than SUM would be IN USE.", EdgesOfMovementsTest::moreThanSum);
    }

    // ---- starts

    private static void aRoute(Check check) {
        Desk d = Desk.at(check, "000000000000|0-3:1,3-11:2|1", 99, 0);
        d.dueStarts("", 0, 0, 1, -21);
        d.dueStarts("-0", 0, 0, 1, -21);
        d.dueStarts("0", 0, 0, 1, -22);
        d.dueStarts("0-", 0, 0, 1, -23);
        d.dueStarts("0--3", 0, 0, 1, -23);
        d.dueStarts("0,3", 0, 0, 1, -22);
        d.dueStarts("0-3-", 0, 0, 1, -25);
        d.dueStarts("0-3-11-", 0, 0, 1, -28);
        d.dueStarts("0-3-110", 0, 0, 1, -27);
        d.dueStarts("0-3", 0, 0, 1, 0);
        d.dueStarts("0-3-11", 0, 0, 1, 1);
        d.due("stop(1, 2)", d.x.stop(1, 2), 11, "-1");
        d.due("movement(1, 6)", d.x.movement(1, 6), 30);
        d.dueStarts("11-3-0", 0, 0, 1, 2);
        d.due("stop(2, 0)", d.x.stop(2, 0), 11, "0");
    }

    private static void startsNow(Check check) {
        Desk d = Desk.at(check, Desk.NET, 999, 0, 999, 1);
        d.dueStarts("0-1", 0, 0, 1, 0);
        d.x.hours(999);
        d.dueStarts("4-3-2", 1, 1, 3, 1);
        long[] all = {1, 1, 3, 0, 75, 38, 999 + 20 + 24, 1, 4, 0, 0, 0, 3};
        for (int what = 0; what < all.length; what++) {
            d.due("movement(1, " + what + ")", d.x.movement(1, what), all[what]);
        }
        check.due("book(0)", d.book(0), "0 1 999");
        d.x.undo();
        d.dueStarts("0-1", 0, 0, 1, 1);
    }

    private static void noSuchOffice(Check check) {
        Desk d = Desk.at(check, Desk.NET, 999, 0);
        d.dueStarts("5-1", 0, 0, 1, -21);
        d.dueStarts("4-5", 0, 0, 1, -23);
        d.dueStarts("0-1-9", 0, 0, 1, -25);
        d.dueStarts("4-3", 0, 0, 1, 0);
        d.net(LINE);
        d.x.trader(9, 0);
        d.dueStarts("12-11", 0, 0, 1, -22);
        d.dueStarts("11-12", 0, 0, 1, -25);
        d.dueStarts("11-10", 0, 0, 1, 0);
    }

    private static void toldAlready(Check check) {
        Desk d = Desk.at(check, LINE, 999, 0);
        d.dueStarts("0-0", 0, 0, 1, -23);
        d.dueStarts("0-1-0", 0, 0, 1, -25);
        d.dueStarts("0-1-1", 0, 0, 1, -25);
        d.dueStarts("10-11-10", 0, 0, 1, -28);
        d.dueStarts("6-5-4-3-2-1-0-1", 0, 0, 1, -35);
        d.dueStarts("1-2-3-4-5-6-7-8", 0, 0, 1, 0);
    }

    private static void withoutARoad(Check check) {
        Desk d = Desk.at(check, LINE, 999, 0);
        d.dueStarts("0-2", 0, 0, 1, -23);
        d.dueStarts("0-1-3", 0, 0, 1, -25);
        d.dueStarts("0-11", 0, 0, 1, -24);
        d.dueStarts("10-9-11", 0, 0, 1, -21 - 6);
        d.dueStarts("0-1-2", 0, 0, 1, 0);
        d.net("000|1-2:1|1");
        d.x.trader(9, 0);
        d.dueStarts("0-1", 0, 0, 1, -23);
        d.dueStarts("0", 0, 0, 1, -22);
    }

    private static void a9thOffice(Check check) {
        Desk d = Desk.at(check, LINE, 999, 0);
        d.dueStarts("0-1-2-3-4-5-6-7-8", 0, 0, 1, -21 - 15);
        d.dueStarts("0-1-2-3-4-5-6-7-", 0, 0, 1, -21 - 15);
        d.dueStarts("11-10-9-8-7-6-5-4-3", 0, 0, 1, -21 - 17);
        d.dueStarts("0-1-2-3-4-5-6-7-x", 0, 0, 1, -21 - 15);
        d.dueStarts("0-1-2-3-4-5-6-7", 0, 0, 1, 0);
        d.due("movement(0, 12)", d.x.movement(0, 12), 8);
        d.dueStarts("0-1-2-3-4-5-6", 0, 0, 1, 1);
        d.due("movement(1, 12)", d.x.movement(1, 12), 7);
    }

    private static void units(Check check) {
        Desk d = Desk.at(check, LINE, 999, 0);
        for (int units : new int[] {Integer.MIN_VALUE, -1, 0, 1000, Integer.MAX_VALUE}) {
            d.dueStarts("0-1", 0, 0, units, -1);
        }
        d.due("count(5)", d.x.count(5), 0);
        d.dueStarts("0-1", 0, 0, 1, 0);
        d.x.undo();
        d.dueStarts("0-1", 0, 0, 999, 0);
    }

    private static void thereAreTwenty(Check check) {
        Desk d = Desk.at(check, LINE, 99, 0);
        for (int m = 0; m < 19; m++) {
            d.dueStarts("0-1", 0, 0, 1, m);
        }
        d.dueStarts("0-1", 0, 0, 1, 19);
        d.dueStarts("0-1", 0, 0, 1, -2);
        d.stamps(0, 1);
        d.x.controls(0, 1);
        d.dueStarts("0-1", 0, 0, 1, -2);
        d.due("count(5): one is closed, but there", d.x.count(5), 20);
    }

    private static void moreThanSum(Check check) {
        Desk d = Desk.at(check, LINE, 10, 0, 10, 1, 0, 2, 0, 3);
        d.dueStarts("0-1", 0, 0, 11, -3);
        d.dueStarts("0-1", 0, 0, 10, 0);
        d.dueStarts("0-1", 0, 0, 1, -3);
        d.dueStarts("0-1", 1, 0, 21, -3);
        d.dueStarts("0-1", 1, 0, 20, 1);
        d.dueStarts("0-1", 2, 0, 1, -3);
        d.dueStarts("0-1", 3, 0, 999, 2);
        d.due("count(6)", d.x.count(6), 7);
        d.due("inUse(0): nothing is free", d.x.inUse(0), 10, "10 0 0 1");
    }

    // ---- stamps, breaks

    private static void officesLeft(Check check) {
        Desk d = Desk.at(check, LINE, 999, 0);
        d.starts("0-1-2-3-4-5-6-7", 0, 0, 1);
        for (int o = 1; o < 6; o++) {
            d.due("stamps(0, " + o + ")", d.x.stamps(0, o), 7 - o);
        }
        d.x.hours(39);
        d.due("its state", d.x.movement(0, 3), 3);
        d.due("stamps(0, 6) of one sought", d.x.stamps(0, 6), 1);
        d.due("it stays so", d.x.movement(0, 3), 3);
        d.due("stop(0, 6)", d.x.stop(0, 6), 6, "39");
        check.due("book(0)", d.book(0), "1 0 39");
    }

    private static void theLastStamp(Check check) {
        Desk d = Desk.at(check, LINE, 999, 0);
        d.starts("0-1-2", 0, 0, 1);
        d.starts("0-1", 0, 0, 1);
        d.due("stamps(0, 1)", d.x.stamps(0, 1), 1);
        d.due("its state", d.x.movement(0, 3), 0);
        d.due("stamps(0, 2)", d.x.stamps(0, 2), 0);
        d.due("its state", d.x.movement(0, 3), 1);
        d.x.hours(27);
        d.due("the state of the other one", d.x.movement(1, 3), 3);
        d.due("stamps(1, 1) of one sought", d.x.stamps(1, 1), 0);
        d.due("its state", d.x.movement(1, 3), 1);
        d.due("its step", d.x.movement(1, 11), 0);
        d.due("hours(72): it is sought no more", d.x.hours(72), 0);
    }

    private static void stampsOfNeither(Check check) {
        Desk d = Twins.busy(check);
        for (int m : new int[] {Twins.CLOSED, Twins.PAID, Twins.OWED, Twins.ARRIVED}) {
            d.due("stamps(" + m + ", 1)", d.x.stamps(m, 1), -2);
        }
        d.due("proves(5)", d.x.proves(Twins.SOUGHT), 0);
        d.due("stamps(5, 2) of one closed on its way", d.x.stamps(Twins.SOUGHT, 2), -2);
        d.due("stamps(3, 1) of one sought", d.x.stamps(Twins.SOUGHT_BROKEN, 1), 1);
        d.due("stamps(6, 1) of one rolling", d.x.stamps(Twins.ROLLING, 1), 2);
    }

    private static void anotherOfficeIsNext(Check check) {
        Desk d = Desk.at(check, Desk.NET, 999, 0);
        d.starts("0-1-2-3", 0, 0, 1);
        for (int o : new int[] {0, 2, 3, 4}) {
            d.due("stamps(0, " + o + ")", d.x.stamps(0, o), -3);
        }
        d.due("stamps(0, 1)", d.x.stamps(0, 1), 2);
        d.due("stamps(0, 1) again", d.x.stamps(0, 1), -3);
        d.due("stamps(0, 3)", d.x.stamps(0, 3), -3);
        d.due("stamps(0, 2)", d.x.stamps(0, 2), 1);
    }

    private static void howManyAreBroken(Check check) {
        Desk d = Desk.at(check, LINE, 999, 0);
        for (int m = 0; m < 20; m++) {
            d.starts("0-1", 0, 0, 1);
        }
        for (int m = 0; m < 19; m++) {
            d.due("breaks(" + m + ")", d.x.breaks(m), m + 1);
        }
        d.stamps(0, 1);
        d.x.controls(0, 1);
        d.x.hours(27);
        d.due("breaks(19) of one sought: those closed, too", d.x.breaks(19), 20);
        d.due("count(10)", d.x.count(10), 20);
        d.due("its state", d.x.movement(19, 3), 3);
    }

    private static void breaksOfNeither(Check check) {
        Desk d = Twins.busy(check);
        for (int m : new int[] {Twins.CLOSED, Twins.PAID, Twins.OWED, Twins.ARRIVED}) {
            d.due("breaks(" + m + ")", d.x.breaks(m), -2);
        }
        d.due("breaks(5) of one sought", d.x.breaks(Twins.SOUGHT), 2);
        d.due("breaks(6) of one rolling", d.x.breaks(Twins.ROLLING), 3);
    }

    private static void itIsBroken(Check check) {
        Desk d = Twins.busy(check);
        d.due("breaks(3)", d.x.breaks(Twins.SOUGHT_BROKEN), -3);
        d.due("breaks(6)", d.x.breaks(Twins.ROLLING), 2);
        d.due("breaks(6) again", d.x.breaks(Twins.ROLLING), -3);
        d.x.undo();
        d.due("breaks(6), undone", d.x.breaks(Twins.ROLLING), 2);
    }

    // ---- controls, proves, pays

    private static Desk arrived(Check check, boolean broken) {
        Desk d = Desk.at(check, "00|0-1:1|999", 999999, 0);
        d.starts("0-1", 0, 0, 999);
        if (broken) {
            d.x.breaks(0);
        }
        d.stamps(0, 1);
        return d;
    }

    private static void allAreThere(Check check) {
        for (boolean broken : new boolean[] {false, true}) {
            Desk d = arrived(check, broken);
            d.due("controls(0, 999)", d.x.controls(0, 999), 0);
            d.due("its state", d.x.movement(0, 3), 2);
            d.due("its debt", d.x.movement(0, 10), 0);
            check.due("book(0)", d.book(0), "3 0 0");
            d = arrived(check, broken);
            d.due("controls(0, 0)", d.x.controls(0, 0), broken ? 1996002 : 998001);
            d.due("its state", d.x.movement(0, 3), 4);
            check.due("book(0)", d.book(0), "5 0 0");
        }
    }

    private static void someAreMissing(Check check) {
        Desk d = arrived(check, false);
        d.due("controls(0, 998): one is missing", d.x.controls(0, 998), 999);
        d.due("its state", d.x.movement(0, 3), 4);
        d.due("its debt", d.x.movement(0, 10), 999);
        d = arrived(check, true);
        d.due("controls(0, 998): one is missing, the seal is broken", d.x.controls(0, 998), 1998);
        d.due("its debt", d.x.movement(0, 10), 1998);
        d.due("its duty stays", d.x.movement(0, 4), 998001);
        d.due("pays(0)", d.x.pays(0), 1998);
    }

    private static void anotherNumberOfUnits(Check check) {
        Desk d = arrived(check, false);
        for (int units : new int[] {Integer.MIN_VALUE, -1, 1000, Integer.MAX_VALUE}) {
            d.due("controls(0, " + units + ")", d.x.controls(0, units), -1);
        }
        d = Twins.busy(check);
        d.due("controls(4, 4)", d.x.controls(Twins.ARRIVED, 4), -1);
        d.due("controls(7, 0)", d.x.controls(Twins.MOVEMENTS, 0), -1);
        d.due("its state", d.x.movement(Twins.ARRIVED, 3), 1);
        d.due("controls(4, 3)", d.x.controls(Twins.ARRIVED, 3), 0);
    }

    private static void notArrived(Check check) {
        Desk d = Twins.busy(check);
        for (int m : new int[] {Twins.CLOSED, Twins.PAID, Twins.OWED, Twins.SOUGHT, Twins.SOUGHT_BROKEN, Twins.ROLLING}) {
            d.due("controls(" + m + ", 0)", d.x.controls(m, 0), -2);
        }
        d.due("controls(4, 0)", d.x.controls(Twins.ARRIVED, 0), 75);
        d.due("controls(4, 0) again", d.x.controls(Twins.ARRIVED, 0), -2);
    }

    private static void proved(Check check) {
        int[] behind = {1, 23, 24, 47, 48, 71};
        long[] steps = {0, 0, 1, 1, 2, 2};
        for (int i = 0; i < behind.length; i++) {
            Desk d = Desk.at(check, LINE, 99, 0);
            d.starts("0-1", 0, 0, 5);
            d.x.hours(26 + behind[i]);
            d.due("proves(0) " + behind[i] + " hours behind its term", d.x.proves(0), steps[i]);
            d.due("its state", d.x.movement(0, 3), 2);
            d.due("its step", d.x.movement(0, 11), 0);
            d.due("its debt", d.x.movement(0, 10), 0);
            check.due("book(0)", d.book(0), "3 0 " + (26 + behind[i]));
            d.due("inUse(0)", d.x.inUse(0), 0, "99 0 99 0");
        }
    }

    private static void notSought(Check check) {
        Desk d = Twins.busy(check);
        for (int m : new int[] {Twins.CLOSED, Twins.PAID, Twins.OWED, Twins.ARRIVED, Twins.ROLLING}) {
            d.due("proves(" + m + ")", d.x.proves(m), -2);
        }
        d.due("proves(5)", d.x.proves(Twins.SOUGHT), 0);
        d.due("proves(5) again", d.x.proves(Twins.SOUGHT), -2);
        Desk one = Desk.at(check, LINE, 99, 0);
        one.starts("0-1", 0, 0, 5);
        one.x.hours(26);
        one.due("proves(0) at its term", one.x.proves(0), -2);
        one.x.hours(72);
        one.due("proves(0), 72 hours behind it", one.x.proves(0), -2);
    }

    private static void provesOfOneBroken(Check check) {
        Desk d = Twins.busy(check);
        d.due("proves(3)", d.x.proves(Twins.SOUGHT_BROKEN), -3);
        d.x.breaks(Twins.SOUGHT);
        d.due("proves(5)", d.x.proves(Twins.SOUGHT), -3);
        d.x.undo();
        d.due("proves(5), whole again", d.x.proves(Twins.SOUGHT), 0);
    }

    private static void paid(Check check) {
        Desk d = Twins.busy(check);
        d.due("pays(2)", d.x.pays(Twins.OWED), 40);
        d.due("its state", d.x.movement(Twins.OWED, 3), 5);
        d.due("its debt stays told", d.x.movement(Twins.OWED, 10), 40);
        check.due("book(0)", d.book(0), "6 2 60");
        d.due("owes(1)", d.x.owes(1), 0, "40");
        d.due("inUse(1)", d.x.inUse(1), 0, "500 2 500 0");
    }

    private static void notOwed(Check check) {
        Desk d = Twins.busy(check);
        for (int m : new int[] {Twins.CLOSED, Twins.PAID, Twins.SOUGHT, Twins.SOUGHT_BROKEN, Twins.ARRIVED, Twins.ROLLING}) {
            d.due("pays(" + m + ")", d.x.pays(m), -2);
        }
        d.due("pays(2)", d.x.pays(Twins.OWED), 40);
        d.due("pays(2) again", d.x.pays(Twins.OWED), -2);
    }

    // ---- hours

    private static void hoursGoBy(Check check) {
        Desk d = new Desk(check);
        d.due("hours(1)", d.x.hours(1), 0);
        d.due("count(0)", d.x.count(0), 1);
        d.due("hours(999)", d.x.hours(999), 0);
        d.due("count(0)", d.x.count(0), 1000);
    }

    private static void howManyBecame(Check check) {
        Desk d = Desk.at(check, LINE, 999, 0);
        for (int m = 0; m < 20; m++) {
            d.starts(m < 10 ? "0-1" : "0-1-2", 0, 0, 1);
        }
        // Terms 26 and 28.
        d.due("hours(26): to a term", d.x.hours(26), 0);
        d.due("hours(1): beyond it", d.x.hours(1), 10);
        d.due("hours(2)", d.x.hours(2), 10);
        d.due("hours(68): 71 hours behind a term", d.x.hours(68), 0);
        d.due("hours(1): 72 hours", d.x.hours(1), 10);
        d.due("hours(999)", d.x.hours(999), 10);
        d.due("hours(999)", d.x.hours(999), 0);
        d.due("undo()", d.x.undo(), 7);
        for (int i = 0; i < 6; i++) {
            d.x.undo();
        }
        d.due("count(0)", d.x.count(0), 0);
        d.due("hours(999): each is one, though it became both", d.x.hours(999), 20);
        d.due("states(4): all are owed", d.x.states(4), 1048575, "20 20");
    }

    private static void anotherNumberOfHours(Check check) {
        TransitSeals x = new TransitSeals();
        for (int n : new int[] {Integer.MIN_VALUE, -1, 0, 1000, Integer.MAX_VALUE}) {
            check.due("hours(" + n + ")", x.hours(n), -1);
        }
        check.due("count(0)", x.count(0), 0);
        check.due("count(6)", x.count(6), 0);
    }

    private static void aboveTheLastHour(Check check) {
        TransitSeals x = new TransitSeals();
        for (int i = 0; i < 100; i++) {
            x.hours(999);
        }
        check.due("hours(100) from 99900 on", x.hours(100), -1);
        check.due("hours(999) from 99900 on", x.hours(999), -1);
        check.due("count(0)", x.count(0), 99900);
        check.due("hours(98)", x.hours(98), 0);
        check.due("hours(2) from 99998 on", x.hours(2), -1);
        check.due("hours(1) from 99998 on", x.hours(1), 0);
        check.due("count(0)", x.count(0), 99999);
        check.due("hours(1) from 99999 on", x.hours(1), -1);
        check.due("hours(greatest)", x.hours(Integer.MAX_VALUE), -1);
        check.due("undo()", x.undo(), 7);
        check.due("hours(1) from 99998 on", x.hours(1), 0);
    }
}
