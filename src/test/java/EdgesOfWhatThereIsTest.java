import java.io.IOException;

/** Each sentence of promises 21 to 31: what there is. */
final class EdgesOfWhatThereIsTest {
    private static final String LINE = EdgesOfTermsTest.LINE;

    private EdgesOfWhatThereIsTest() {
    }

    public static void main(String[] args) throws IOException {
        Edges e = new Edges("EdgesOfWhatThereIsTest", "Promise 21", "Promise 22", "Promise 23", "Promise 24", "Promise 25",
            "Promise 26", "Promise 27", "Promise 28", "Promise 29", "Promise 30", "Promise 31");
        ofMovements(e);
        e.of("Promise 26", "MOVEMENTS that are ROLLING, ARRIVED, .. (STATE 0 .. 5), as bits;", EdgesOfWhatThereIsTest::states);
        e.of("Promise 26", "the ROW: how many, SHARES of them together.", EdgesOfWhatThereIsTest::sharesOfStates);
        e.of("Promise 26", "NONE: another STATE.", EdgesOfWhatThereIsTest::anotherState);
        e.of("Promise 27", "DEBTS due in a COUNTRY (0 .. 5) that are not PAID;", EdgesOfWhatThereIsTest::debtsOfACountry);
        e.of("Promise 27", "the ROW: those PAID, how many MOVEMENTS (both).", EdgesOfWhatThereIsTest::debtsPaidInACountry);
        e.of("Promise 27", "NONE: no such COUNTRY.", EdgesOfWhatThereIsTest::noSuchCountry);
        e.of("Promise 28", "MOVEMENTS that are LATE: that are ROLLING, of which HOURS from SEEN to the end of the ROUTE, "
            + "from the HOUR of its STAMP there on, lead beyond TERM, as bits;", EdgesOfWhatThereIsTest::late);
        e.of("Promise 28", "the ROW: how many.", EdgesOfWhatThereIsTest::howManyAreLate);
        e.of("Promise 29", "MOVEMENTS that are ROLLING or SOUGHT whose next OFFICE is an OFFICE, as bits;", EdgesOfWhatThereIsTest::next);
        e.of("Promise 29", "the ROW: how many, UNITS of these together.", EdgesOfWhatThereIsTest::unitsOfNext);
        e.of("Promise 30", "DUTY of MOVEMENTS of a TRADER that are not CLOSED, not PAID, together;", EdgesOfWhatThereIsTest::worth);
        e.of("Promise 30", "the ROW: what of it is not IN USE, how many of these are SOUGHT or OWED.",
            EdgesOfWhatThereIsTest::worthNotInUse);
        e.of("Promise 31", "The OFFICE that most MOVEMENTS that are ROLLING or SOUGHT are still to come to, of equal ones the first;",
            EdgesOfWhatThereIsTest::busiest);
        e.of("Promise 31", "the ROW: these, as bits.", EdgesOfWhatThereIsTest::movementsOfTheBusiest);
        e.of("Promise 31", "-2: none is to come anywhere.", EdgesOfWhatThereIsTest::noneIsToCome);
        e.close();
    }

    private static void ofMovements(Edges e) {
        e.of("Promise 21", "Of a MOVEMENT what 0: TRADER, 1: GOODS, 2: UNITS, 3: STATE, 4: DUTY, 5: SHARE, 6: TERM, 7: STAMPS, 8: SEEN, "
            + "9: 1 if its SEAL is broken, else 0, 10: DEBT, 11: STEP (0 if it is not SOUGHT), 12: OFFICES of its ROUTE.",
            EdgesOfWhatThereIsTest::movement);
        e.of("Promise 21", "NONE: another what.", EdgesOfWhatThereIsTest::anotherWhat);
        e.of("Promise 22", "The k-th OFFICE of its ROUTE;", EdgesOfWhatThereIsTest::stop);
        e.of("Promise 22", "the ROW: the HOUR of its STAMP (NONE).", EdgesOfWhatThereIsTest::hourOfAStamp);
        e.of("Promise 22", "NONE: no such k, too.", EdgesOfWhatThereIsTest::noSuchStop);
        e.of("Promise 23", "HOURS from SEEN to the end of its ROUTE;", EdgesOfWhatThereIsTest::left);
        e.of("Promise 23", "the ROW: HOURS from now on to TERM (below 0: it is past),", EdgesOfWhatThereIsTest::hoursToTerm);
        e.of("Promise 23", "the next OFFICE (NONE).", EdgesOfWhatThereIsTest::theNextOffice);
        e.of("Promise 24", "Changes of COUNTRY along its ROUTE;", EdgesOfWhatThereIsTest::borders);
        e.of("Promise 24", "the ROW: COUNTRIES it comes to, as bits.", EdgesOfWhatThereIsTest::countriesItComesTo);
        e.of("Promise 25", "ASKED: OFFICES, as bits;", EdgesOfWhatThereIsTest::asked);
        e.of("Promise 25", "the ROW: STEP, HOURS from now on to the next one (or to its being OWED).", EdgesOfWhatThereIsTest::hoursToTheNextStep);
        e.of("Promise 25", "-2: it is not SOUGHT.", EdgesOfWhatThereIsTest::askedOfOneNotSought);
    }

    // ---- of a movement

    private static void all(Desk d, int movement, long... answers) {
        for (int what = 0; what < answers.length; what++) {
            d.due("movement(" + movement + ", " + what + ")", d.x.movement(movement, what), answers[what]);
        }
    }

    private static void movement(Check check) {
        Desk d = Twins.busy(check);
        all(d, Twins.CLOSED, 0, 0, 10, 2, 100, 100, 34, 2, 1, 0, 0, 0, 2);
        all(d, Twins.PAID, 0, 1, 4, 5, 100, 100, 34, 2, 1, 0, 100, 0, 2);
        all(d, Twins.OWED, 1, 0, 9, 4, 90, 9, 34, 2, 1, 0, 40, 0, 2);
        all(d, Twins.SOUGHT_BROKEN, 0, 0, 20, 3, 200, 200, 48, 1, 0, 1, 0, 0, 3);
        all(d, Twins.ARRIVED, 2, 1, 3, 1, 75, 0, 38, 2, 1, 0, 0, 0, 2);
        all(d, Twins.SOUGHT, 0, 0, 5, 3, 50, 50, 46, 1, 3, 0, 0, 0, 3);
        all(d, Twins.ROLLING, 0, 1, 6, 0, 150, 150, 116, 1, 0, 0, 0, 0, 4);
        d.x.hours(12);
        d.due("movement(3, 11) 24 hours behind its term", d.x.movement(Twins.SOUGHT_BROKEN, 11), 1);
        d.due("movement(6, 11) of one rolling", d.x.movement(Twins.ROLLING, 11), 0);
    }

    private static void anotherWhat(Check check) {
        Desk d = Twins.busy(check);
        for (int what : new int[] {Integer.MIN_VALUE, -1, 13, Integer.MAX_VALUE}) {
            d.due("movement(0, " + what + ")", d.x.movement(0, what), -1);
            d.due("movement(6, " + what + ")", d.x.movement(6, what), -1);
        }
        d.due("movement(0, 0)", d.x.movement(0, 0), 0);
        d.due("movement(0, 12)", d.x.movement(0, 12), 2);
    }

    private static void stop(Check check) {
        Desk d = Desk.at(check, LINE, 99, 0);
        d.starts("11-10-9-8-7-6-5-4", 0, 0, 1);
        for (int k = 0; k < 8; k++) {
            d.due("stop(0, " + k + ")", d.x.stop(0, k), 11 - k);
        }
    }

    private static void hourOfAStamp(Check check) {
        Desk d = Desk.at(check, LINE, 99, 0);
        for (int i = 0; i < 100; i++) {
            d.x.hours(999);
        }
        d.x.hours(97);
        d.starts("0-1-2", 0, 0, 1);
        d.due("stop(0, 0)", d.x.stop(0, 0), 0, "99997");
        d.due("stop(0, 1): no stamp", d.x.stop(0, 1), 1, "-1");
        d.x.hours(2);
        d.stamps(0, 1);
        d.due("stop(0, 1)", d.x.stop(0, 1), 1, "99999");
        d.due("stop(0, 2): no stamp", d.x.stop(0, 2), 2, "-1");
        d.x.undo();
        d.due("stop(0, 1): no stamp any more", d.x.stop(0, 1), 1, "-1");
    }

    private static void noSuchStop(Check check) {
        Desk d = Twins.busy(check);
        for (int k : new int[] {Integer.MIN_VALUE, -1, 2, 8, Integer.MAX_VALUE}) {
            d.due("stop(0, " + k + ") of two", d.x.stop(0, k), -1, Twins.ROW);
        }
        d.due("stop(6, 4) of four", d.x.stop(6, 4), -1, Twins.ROW);
        d.due("stop(7, 0)", d.x.stop(Twins.MOVEMENTS, 0), -1, Twins.ROW);
        d.due("stop(6, 3) of four", d.x.stop(6, 3), 3, "-1");
    }

    private static void left(Check check) {
        Desk d = Desk.at(check, "00000000|0-1:99,1-2:99,2-3:99,3-4:99,4-5:99,5-6:99,6-7:99|1", 99, 0);
        d.starts("0-1-2-3-4-5-6-7", 0, 0, 1);
        for (int o = 1; o < 8; o++) {
            d.due("left(0) seen at " + (o - 1), d.x.left(0), 99 * (8 - o));
            d.stamps(0, o);
        }
        d.due("left(0) at its end", d.x.left(0), 0);
        d.x.controls(0, 1);
        d.due("left(0), closed", d.x.left(0), 0);
        d = Twins.busy(check);
        d.x.proves(Twins.SOUGHT);
        d.due("left(5), closed on its way", d.x.left(Twins.SOUGHT), 11);
    }

    private static void hoursToTerm(Check check) {
        Desk d = Desk.at(check, LINE, 99, 0);
        d.starts("0-1", 0, 0, 1);
        d.due("left(0) at its start", d.x.left(0), 1, "26 1");
        d.x.hours(25);
        d.due("left(0) an hour ahead of its term", d.x.left(0), 1, "1 1");
        d.x.hours(1);
        d.due("left(0) at its term", d.x.left(0), 1, "0 1");
        d.x.hours(1);
        d.due("left(0) an hour behind its term", d.x.left(0), 1, "-1 1");
        for (int i = 0; i < 100; i++) {
            d.x.hours(999);
        }
        d.x.hours(72);
        d.due("left(0) in the last hour", d.x.left(0), 1, "-99973 1");
    }

    private static void theNextOffice(Check check) {
        Desk d = Desk.at(check, LINE, 99, 0);
        d.starts("2-1-0", 0, 0, 1);
        d.due("left(0)", d.x.left(0), 2, "28 1");
        d.stamps(0, 1);
        d.due("left(0): office 0", d.x.left(0), 1, "28 0");
        d.stamps(0, 0);
        d.due("left(0): none", d.x.left(0), 0, "28 -1");
    }

    private static void borders(Check check) {
        Desk d = Desk.at(check, "01010101|0-1:1,1-2:1,2-3:1,3-4:1,4-5:1,5-6:1,6-7:1,0-2:1,2-4:1|1", 99, 0);
        d.starts("0-1-2-3-4-5-6-7", 0, 0, 1);
        d.starts("0-2-4", 0, 0, 1);
        d.starts("0-1", 0, 0, 1);
        d.starts("0-2", 0, 0, 1);
        d.due("borders(0): the most", d.x.borders(0), 7, "3");
        d.due("borders(1): none", d.x.borders(1), 0, "1");
        d.due("borders(2)", d.x.borders(2), 1, "3");
        d.due("borders(3): none", d.x.borders(3), 0, "1");
        d.due("borders(4)", d.x.borders(4), -1, "1");
    }

    private static void countriesItComesTo(Check check) {
        Desk d = Desk.at(check, "01234555|0-1:1,1-2:1,2-3:1,3-4:1,4-5:1,5-6:1,6-7:1|1", 99, 0);
        d.starts("0-1-2-3-4-5-6-7", 0, 0, 1);
        d.starts("5-6-7", 0, 0, 1);
        d.starts("7-6-5-4", 0, 0, 1);
        d.due("borders(0): all countries", d.x.borders(0), 5, "63");
        d.due("borders(1)", d.x.borders(1), 0, "32");
        d.due("borders(2)", d.x.borders(2), 1, "48");
    }

    private static void asked(Check check) {
        Desk d = Desk.at(check, LINE, 99, 0);
        d.starts("11-10-9-8-7-6-5-4", 0, 0, 1);
        d.starts("0-1", 0, 0, 1);
        d.x.hours(38 + 23);
        d.due("asked(0): nobody", d.x.asked(0), 0);
        d.x.hours(1);
        d.due("asked(0): where it was seen", d.x.asked(0), 2048);
        d.x.hours(24);
        d.due("asked(0): all of its route", d.x.asked(0), 4080);
        d.stamps(0, 10, 9, 8, 7, 6, 5);
        d.due("asked(0): the last two", d.x.asked(0), 48);
        d.due("asked(1): both", d.x.asked(1), 3);
    }

    private static void hoursToTheNextStep(Check check) {
        Desk d = Desk.at(check, LINE, 99, 0);
        d.starts("0-1", 0, 0, 1);
        // So many hours behind its term 26.
        int[] behind = {1, 23, 24, 25, 47, 48, 71};
        String[] rows = {"0 23", "0 1", "1 24", "1 23", "1 1", "2 24", "2 1"};
        int[] bits = {0, 0, 1, 1, 1, 3, 3};
        d.x.hours(26);
        for (int i = 0; i < behind.length; i++) {
            d.x.hours(i == 0 ? 1 : behind[i] - behind[i - 1]);
            d.due("asked(0) " + behind[i] + " hours behind its term", d.x.asked(0), bits[i], rows[i]);
        }
    }

    private static void askedOfOneNotSought(Check check) {
        Desk d = Twins.busy(check);
        for (int m : new int[] {Twins.CLOSED, Twins.PAID, Twins.OWED, Twins.ARRIVED, Twins.ROLLING}) {
            d.due("asked(" + m + ")", d.x.asked(m), -2, Twins.ROW);
        }
        d.due("asked(7)", d.x.asked(Twins.MOVEMENTS), -1, Twins.ROW);
        d.due("asked(5)", d.x.asked(Twins.SOUGHT), 0, "0 10");
        d.x.proves(Twins.SOUGHT);
        d.due("asked(5), proved", d.x.asked(Twins.SOUGHT), -2, "0 10");
    }

    // ---- of all movements

    private static void states(Check check) {
        Desk d = Twins.busy(check);
        int[] bits = {64, 16, 1, 40, 4, 2};
        for (int state = 0; state < bits.length; state++) {
            d.due("states(" + state + ")", d.x.states(state), bits[state]);
        }
        d = Desk.at(check, LINE, 20, 0);
        d.due("states(0) of none", d.x.states(0), 0, "0 0");
        for (int m = 0; m < 20; m++) {
            d.starts("0-1", 0, 0, 1);
        }
        d.due("states(0) of all twenty", d.x.states(0), 1048575, "20 20");
        d.due("states(5) of none", d.x.states(5), 0, "0 0");
    }

    private static void sharesOfStates(Check check) {
        Desk d = Twins.busy(check);
        String[] rows = {"1 150", "1 0", "1 100", "2 250", "1 9", "1 100"};
        for (int state = 0; state < rows.length; state++) {
            d.x.states(state);
            check.due("states(" + state + "), its row", d.row(), rows[state]);
        }
    }

    private static void anotherState(Check check) {
        Desk d = Twins.busy(check);
        for (int state : new int[] {Integer.MIN_VALUE, -1, 6, Integer.MAX_VALUE}) {
            d.due("states(" + state + ")", d.x.states(state), -1, Twins.ROW);
        }
    }

    /** A road to each country, and a debt in each: 1, 2, 4, 8, 16, 32. */
    private static Desk debtors(Check check) {
        Desk d = Desk.at(check, "001234500|0-1:1,0-2:1,0-3:1,0-4:1,0-5:1,0-6:1|1", 999, 0);
        for (int country = 0; country < 6; country++) {
            d.starts("0-" + (country + 1), 0, 0, 1 << country);
            d.stamps(country, country + 1);
            d.x.controls(country, 0);
        }
        return d;
    }

    private static void debtsOfACountry(Check check) {
        Desk d = debtors(check);
        for (int country = 0; country < 6; country++) {
            d.due("owed(" + country + ")", d.x.owed(country), 1 << country, "0 1");
        }
        d.starts("0-6", 0, 0, 64);
        d.due("owed(5): one more is rolling", d.x.owed(5), 32, "0 1");
        d.stamps(6, 6);
        d.x.controls(6, 0);
        d.due("owed(5): one more is owed", d.x.owed(5), 96, "0 2");
        d.due("owed(0) of none", Desk.at(check, LINE).x.owed(0), 0);
    }

    private static void debtsPaidInACountry(Check check) {
        Desk d = debtors(check);
        d.x.pays(5);
        d.due("owed(5)", d.x.owed(5), 0, "32 1");
        d.starts("0-6", 0, 0, 64);
        d.stamps(6, 6);
        d.x.controls(6, 0);
        d.due("owed(5)", d.x.owed(5), 64, "32 2");
        d.starts("0-6", 0, 0, 3);
        d.stamps(7, 6);
        d.x.controls(7, 3);
        d.due("owed(5): one more is closed", d.x.owed(5), 64, "32 2");
    }

    private static void noSuchCountry(Check check) {
        Desk d = Twins.busy(check);
        for (int country : new int[] {Integer.MIN_VALUE, -1, 6, Integer.MAX_VALUE}) {
            d.due("owed(" + country + ")", d.x.owed(country), -1, Twins.ROW);
        }
        d.due("owed(5): no office is there", d.x.owed(5), 0, "0 0");
    }

    /** Term 2 times 60 and 24: seen at office 1 at hour 94, or later, 50 hours lead to it, or beyond. */
    private static void late(Check check) {
        Desk d = Desk.at(check, "0000|0-1:10,1-2:20,2-3:30|5", 9999, 0);
        d.starts("0-1-2-3", 0, 0, 1);
        d.starts("0-1-2-3", 0, 0, 1);
        d.starts("0-1-2-3", 0, 0, 1);
        d.x.hours(94);
        d.stamps(0, 1);
        d.due("late(): just at its term", d.x.late(), 0, "0");
        d.x.hours(1);
        d.stamps(1, 1);
        d.due("late(): an hour beyond it", d.x.late(), 2, "1");
        d.x.hours(49);
        d.due("late(): the one seen at its start is not", d.x.late(), 2, "1");
        d.x.hours(1);
        d.due("late(): all are sought", d.x.late(), 0, "0");
        d.due("states(3)", d.x.states(3), 7);
    }

    private static void howManyAreLate(Check check) {
        Desk d = Desk.at(check, LINE, 99, 0);
        d.due("late() of none", d.x.late(), 0, "0");
        for (int m = 0; m < 20; m++) {
            d.starts("0-1-2", 0, 0, 1);
        }
        d.x.hours(28);
        for (int m = 0; m < 20; m++) {
            d.due("late(), so far", d.x.late(), (1 << m) - 1, String.valueOf(m));
            d.stamps(m, 1);
        }
        d.due("late() of all twenty", d.x.late(), 1048575, "20");
    }

    private static void next(Check check) {
        Desk d = Twins.busy(check);
        d.due("next(0)", d.x.next(0), 0);
        d.due("next(1)", d.x.next(1), 72);
        d.due("next(2)", d.x.next(2), 32);
        d.due("next(4), the last office", d.x.next(4), 0);
        d.stamps(Twins.SOUGHT, 2);
        d.due("next(1)", d.x.next(1), 104);
        d.stamps(Twins.SOUGHT, 1);
        d.due("next(1): one is arrived", d.x.next(1), 72);
        d.x.hours(60);
        d.due("next(1): one is owed", d.x.next(1), 64);
    }

    private static void unitsOfNext(Check check) {
        Desk d = Desk.at(check, LINE, 0, 3);
        d.due("next(1) of none", d.x.next(1), 0, "0 0");
        for (int m = 0; m < 20; m++) {
            d.starts("0-1", 0, 0, 999);
        }
        d.due("next(1) of all twenty", d.x.next(1), 1048575, "20 19980");
        d.due("next(0)", d.x.next(0), 0, "0 0");
        d.due("next(12)", d.x.next(12), -1, "0 0");
    }

    private static void worth(Check check) {
        Desk d = Twins.busy(check);
        d.due("worth(0): not those closed and paid", d.x.worth(0), 400);
        d.due("worth(1): one is owed", d.x.worth(1), 90);
        d.due("worth(2): one is arrived", d.x.worth(2), 75);
        d = Desk.at(check, "00|0-1:1|999", 0, 3, 0, 3);
        d.due("worth(0) of none", d.x.worth(0), 0, "0 0");
        for (int m = 0; m < 20; m++) {
            d.starts("0-1", 0, 0, 999);
        }
        d.due("worth(0): the most", d.x.worth(0), 19960020, "19960020 0");
        d.due("worth(1) of none", d.x.worth(1), 0, "0 0");
    }

    private static void worthNotInUse(Check check) {
        Desk d = Twins.busy(check);
        d.due("worth(0): all is in use", d.x.worth(0), 400, "0 2");
        d.due("worth(1): a tenth is", d.x.worth(1), 90, "81 1");
        d.due("worth(2): nothing is", d.x.worth(2), 75, "75 0");
        d.x.hours(60);
        d.due("worth(0): two are owed, one is sought", d.x.worth(0), 400, "0 3");
        d.x.pays(Twins.SOUGHT);
        d.due("worth(0): one is paid", d.x.worth(0), 350, "0 2");
    }

    private static void busiest(Check check) {
        Desk d = Desk.at(check, LINE, 99, 0);
        d.starts("3-4-5", 0, 0, 1);
        d.due("busiest(): of two the first", d.x.busiest(), 4, "1");
        d.starts("6-5", 0, 0, 1);
        d.due("busiest(): the one that both come to", d.x.busiest(), 5, "3");
        d.starts("3-4", 0, 0, 1);
        d.due("busiest(): of two the first", d.x.busiest(), 4, "5");
        d.stamps(2, 4);
        d.due("busiest(): one is arrived", d.x.busiest(), 5, "3");
        d.x.hours(27);
        d.due("busiest(): one is sought", d.x.busiest(), 5, "3");
        d.x.proves(1);
        d.due("busiest(): it is closed", d.x.busiest(), 4, "1");
        d.stamps(0, 4);
        d.due("busiest(): only the last office is left", d.x.busiest(), 5, "1");
    }

    private static void movementsOfTheBusiest(Check check) {
        Desk d = Desk.at(check, LINE, 99, 0);
        for (int m = 0; m < 20; m++) {
            d.starts(m % 2 == 0 ? "10-11" : "9-10-11", 0, 0, 1);
        }
        d.due("busiest(): the last office, all twenty", d.x.busiest(), 11, "1048575");
        d.stamps(0, 11);
        d.due("busiest(): one is arrived", d.x.busiest(), 11, "1048574");
    }

    private static void noneIsToCome(Check check) {
        Desk d = Desk.at(check, LINE, 99, 0);
        d.due("busiest() of no movements", d.x.busiest(), -2, "");
        d.starts("1-0", 0, 0, 1);
        d.due("busiest(): office 0", d.x.busiest(), 0, "1");
        d.stamps(0, 0);
        d.due("busiest() of one arrived", d.x.busiest(), -2, "1");
        d.starts("1-0", 0, 0, 1);
        d.x.hours(98);
        d.due("busiest() of one owed on its way", d.x.busiest(), -2, "1");
    }
}
