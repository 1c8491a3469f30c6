/** Promises 21 to 31: what can be asked of movements, countries, offices and traders. */
final class WhatThereIsTest {
    private WhatThereIsTest() {
    }

    public static void main(String[] args) {
        Check check = new Check("WhatThereIsTest");
        movement(check);
        stop(check);
        left(check);
        borders(check);
        asked(check);
        states(check);
        owed(check);
        late(check);
        next(check);
        worth(check);
        busiest(check);
        check.close();
    }

    private static void dueOf(Desk d, int movement, long... answers) {
        for (int what = 0; what < answers.length; what++) {
            d.due("movement(" + movement + ", " + what + ")", d.x.movement(movement, what), answers[what]);
        }
    }

    private static void movement(Check check) {
        Desk d = Desk.at(check, Desk.NET, 9999, 0, 9999, 1);
        d.x.hours(10);
        d.starts("0-1-2-3", 0, 0, 7);
        d.starts("4-3", 1, 1, 3);
        dueOf(d, 0, 0, 0, 7, 0, 70, 70, 66, 1, 0, 0, 0, 0, 4);
        dueOf(d, 1, 1, 1, 3, 0, 75, 38, 46, 1, 4, 0, 0, 0, 2);
        d.due("movement(0, 13)", d.x.movement(0, 13), -1);
        d.due("movement(0, -1)", d.x.movement(0, -1), -1);
        d.due("movement(2, 0)", d.x.movement(2, 0), -1);
        d.due("movement(-1, 0)", d.x.movement(-1, 0), -1);
        d.x.breaks(1);
        d.x.hours(61);
        d.stamps(0, 1, 2);
        dueOf(d, 0, 0, 0, 7, 3, 70, 70, 66, 3, 2, 0, 0, 0, 4);
        dueOf(d, 1, 1, 1, 3, 3, 75, 38, 46, 1, 4, 1, 0, 1, 2);
        d.stamps(1, 3);
        dueOf(d, 1, 1, 1, 3, 1, 75, 38, 46, 2, 3, 1, 0, 0, 2);
        d.x.controls(1, 1);
        dueOf(d, 1, 1, 1, 3, 4, 75, 38, 46, 2, 3, 1, 100, 0, 2);
        d.x.pays(1);
        dueOf(d, 1, 1, 1, 3, 5, 75, 38, 46, 2, 3, 1, 100, 0, 2);
        d.x.proves(0);
        dueOf(d, 0, 0, 0, 7, 2, 70, 70, 66, 3, 2, 0, 0, 0, 4);
    }

    private static void stop(Check check) {
        Desk d = Desk.at(check, Desk.NET, 9999, 0);
        d.x.hours(3);
        d.starts("2-1-0", 0, 0, 7);
        d.x.hours(4);
        d.stamps(0, 1);
        d.due("stop(0, 0)", d.x.stop(0, 0), 2, "3");
        d.due("stop(0, 1)", d.x.stop(0, 1), 1, "7");
        d.due("stop(0, 2)", d.x.stop(0, 2), 0, "-1");
        d.due("stop(0, 3)", d.x.stop(0, 3), -1, "-1");
        d.due("stop(0, -1)", d.x.stop(0, -1), -1);
        d.due("stop(0, greatest)", d.x.stop(0, Integer.MAX_VALUE), -1);
        d.due("stop(1, 0)", d.x.stop(1, 0), -1);
        d.due("stop(-1, 0)", d.x.stop(-1, 0), -1);
    }

    private static void left(Check check) {
        Desk d = Desk.at(check, Desk.NET, 9999, 0);
        d.starts("0-1-2-3", 0, 0, 7);
        d.due("left(0)", d.x.left(0), 16, "56 1");
        d.x.hours(6);
        d.due("left(0) does not follow the hours", d.x.left(0), 16, "50 1");
        d.stamps(0, 1, 2);
        d.due("left(0)", d.x.left(0), 4, "50 3");
        d.x.hours(60);
        d.due("left(0) past its term", d.x.left(0), 4, "-10 3");
        d.stamps(0, 3);
        d.due("left(0) at its end", d.x.left(0), 0, "-10 -1");
        d.due("left(1)", d.x.left(1), -1, "-10 -1");
        d.due("left(-1)", d.x.left(-1), -1);
    }

    private static void borders(Check check) {
        Desk d = Desk.at(check, "012300|0-1:1,1-2:1,2-3:1,3-4:1,4-5:1,0-4:1|1", 9999, 0);
        d.starts("0-1-2-3-4-5", 0, 0, 1);
        d.starts("0-4-5", 0, 0, 1);
        d.starts("4-3", 0, 0, 1);
        d.starts("1-0-4-3", 0, 0, 1);
        d.due("borders(0)", d.x.borders(0), 4, "15");
        d.due("borders(1)", d.x.borders(1), 0, "1");
        d.due("borders(2)", d.x.borders(2), 1, "9");
        d.due("borders(3)", d.x.borders(3), 2, "11");
        d.starts("1-2-3", 0, 0, 1);
        d.due("borders(4)", d.x.borders(4), 2, "14");
        d.x.undo();
        d.due("borders(4) of none", d.x.borders(4), -1, "14");
        d.due("borders(-1)", d.x.borders(-1), -1);
    }

    private static void asked(Check check) {
        Desk d = Desk.at(check, Desk.NET, 9999, 0);
        d.starts("0-1-2-3", 0, 0, 7);
        d.due("asked(1)", d.x.asked(1), -1);
        d.due("asked(-1)", d.x.asked(-1), -1);
        d.due("asked(0) of one rolling", d.x.asked(0), -2, "");
        d.stamps(0, 1);
        d.x.hours(57);
        d.due("asked(0)", d.x.asked(0), 0, "0 23");
        d.x.hours(22);
        d.due("asked(0)", d.x.asked(0), 0, "0 1");
        d.x.hours(1);
        d.due("asked(0)", d.x.asked(0), 2, "1 24");
        d.x.hours(23);
        d.due("asked(0)", d.x.asked(0), 2, "1 1");
        d.x.hours(1);
        d.due("asked(0)", d.x.asked(0), 14, "2 24");
        d.stamps(0, 2);
        d.due("asked(0)", d.x.asked(0), 12, "2 24");
        d.x.hours(23);
        d.due("asked(0)", d.x.asked(0), 12, "2 1");
        d.x.hours(1);
        d.due("asked(0) of one owed", d.x.asked(0), -2, "2 1");
        d.starts("2-1-0", 0, 0, 7);
        d.x.hours(48 + 24);
        d.due("asked(1), seen where it started", d.x.asked(1), 4, "1 24");
        d.x.hours(24);
        d.due("asked(1), seen where it started", d.x.asked(1), 7, "2 24");
    }

    private static void states(Check check) {
        Desk d = Desk.at(check, Desk.NET, 9999, 0, 9999, 1);
        for (int m = 0; m < 7; m++) {
            d.starts(m == 6 ? "0-1-2-3" : "0-1", m % 2, 1, m + 1);
        }
        for (int m = 0; m < 4; m++) {
            d.stamps(m, 1);
        }
        d.x.controls(0, 1);
        d.x.controls(1, 1);
        d.x.controls(2, 1);
        d.x.pays(2);
        d.x.hours(40);
        d.due("states(0)", d.x.states(0), 64, "1 175");
        d.due("states(1)", d.x.states(1), 8, "1 50");
        d.due("states(2)", d.x.states(2), 1, "1 25");
        d.due("states(3)", d.x.states(3), 48, "2 200");
        d.due("states(4)", d.x.states(4), 2, "1 25");
        d.due("states(5)", d.x.states(5), 4, "1 75");
        d.due("states(6)", d.x.states(6), -1, "1 75");
        d.due("states(-1)", d.x.states(-1), -1, "1 75");
        d.x.pays(1);
        d.due("states(4)", d.x.states(4), 0, "0 0");
        d.due("states(5)", d.x.states(5), 6, "2 100");
    }

    private static void owed(Check check) {
        Desk d = Desk.at(check, Desk.NET, 9999, 0, 9999, 1);
        d.starts("0-1-2", 0, 0, 7);
        d.starts("0-1", 1, 0, 9);
        d.starts("1-2", 0, 0, 5);
        d.starts("2-3", 0, 0, 3);
        d.stamps(1, 1);
        d.stamps(2, 2);
        d.stamps(3, 3);
        d.due("owed(0)", d.x.owed(0), 0, "0 0");
        d.x.controls(1, 5);
        d.x.controls(2, 4);
        d.x.controls(3, 0);
        // Movement 0 was seen at office 0, in country 0, when it is lost.
        d.x.hours(121);
        d.due("owed(0)", d.x.owed(0), 110, "0 2");
        d.due("owed(1)", d.x.owed(1), 10, "0 1");
        d.due("owed(2)", d.x.owed(2), 30, "0 1");
        d.x.pays(1);
        d.due("owed(0)", d.x.owed(0), 70, "40 2");
        d.x.pays(0);
        d.due("owed(0)", d.x.owed(0), 0, "110 2");
        d.due("owed(5)", d.x.owed(5), 0, "0 0");
        d.due("owed(6)", d.x.owed(6), -1, "0 0");
        d.due("owed(-1)", d.x.owed(-1), -1);
    }

    private static void late(Check check) {
        Desk d = Desk.at(check, "0000|0-1:10,1-2:20,2-3:30|5", 9999, 0);
        d.starts("0-1-2-3", 0, 0, 1);
        d.starts("0-1", 0, 0, 1);
        d.starts("0-1-2", 0, 0, 1);
        d.due("late()", d.x.late(), 0, "0");
        d.x.hours(34);
        // Term 84, 20 hours behind office 1: late if its stamp is later than hour 64.
        d.stamps(2, 1);
        d.due("late()", d.x.late(), 0, "0");
        d.x.hours(10);
        d.x.hours(50);
        d.stamps(0, 1);
        d.due("late(): hour 94 and 50 hours are just its term 144", d.x.late(), 0, "0");
        d.x.undo();
        d.x.hours(1);
        d.stamps(0, 1);
        d.due("late(): one hour later", d.x.late(), 1, "1");
        d.x.hours(49);
        d.due("late() still", d.x.late(), 1, "1");
        d.x.hours(1);
        d.due("late(): not when it is sought", d.x.late(), 0, "0");
        d.due("movement(0, 3)", d.x.movement(0, 3), 3);
        d.starts("0-1-2-3", 0, 0, 1);
        d.x.hours(95);
        d.stamps(3, 1);
        d.due("late()", d.x.late(), 8, "1");
        d.stamps(3, 2);
        d.due("late(): seen nearer to its end", d.x.late(), 0, "0");
        d.starts("0-1-2-3", 0, 0, 1);
        d.starts("0-1-2-3", 0, 0, 1);
        d.starts("0-1", 0, 0, 1);
        d.starts("0-1-2-3", 0, 0, 1);
        d.x.hours(100);
        d.stamps(4, 1);
        d.stamps(7, 1);
        d.due("late(): two", d.x.late(), 144, "2");
    }

    private static void next(Check check) {
        Desk d = Desk.at(check, Desk.NET, 9999, 0);
        d.starts("0-1-2", 0, 0, 7);
        d.starts("2-1-0", 0, 0, 5);
        d.starts("0-2-3", 0, 0, 3);
        d.due("next(1)", d.x.next(1), 3, "2 12");
        d.due("next(2)", d.x.next(2), 4, "1 3");
        d.due("next(0)", d.x.next(0), 0, "0 0");
        d.stamps(0, 1);
        d.due("next(2)", d.x.next(2), 5, "2 10");
        d.x.hours(60);
        d.due("next(2), one is sought", d.x.next(2), 5, "2 10");
        d.stamps(0, 2);
        d.due("next(2), one is arrived", d.x.next(2), 4, "1 3");
        d.x.proves(1);
        d.due("next(1), one is closed", d.x.next(1), 0, "0 0");
        d.due("next(5)", d.x.next(5), -1, "0 0");
        d.due("next(-1)", d.x.next(-1), -1);
    }

    private static void worth(Check check) {
        Desk d = Desk.at(check, Desk.NET, 9999, 1, 9999, 0);
        d.starts("0-1", 0, 1, 3);
        d.starts("0-1", 0, 0, 4);
        d.starts("0-1", 1, 0, 9);
        d.starts("0-1-2-3-4", 0, 0, 8);
        d.due("worth(0)", d.x.worth(0), 195, "97 0");
        d.due("worth(1)", d.x.worth(1), 90, "0 0");
        d.stamps(0, 1);
        d.x.controls(0, 1);
        d.due("worth(0), one is owed", d.x.worth(0), 195, "97 1");
        d.x.hours(40);
        d.due("worth(0), one is sought", d.x.worth(0), 195, "97 2");
        d.x.pays(0);
        d.due("worth(0), one is paid", d.x.worth(0), 120, "60 1");
        d.x.proves(1);
        d.due("worth(0), one is closed", d.x.worth(0), 80, "40 0");
        d.due("worth(2)", d.x.worth(2), -1, "40 0");
        d.due("worth(-1)", d.x.worth(-1), -1);
    }

    private static void busiest(Check check) {
        Desk d = Desk.at(check, Desk.NET, 9999, 0);
        d.due("busiest()", d.x.busiest(), -2, "");
        d.starts("0-1-2-3", 0, 0, 7);
        d.due("busiest(): the first of three", d.x.busiest(), 1, "1");
        d.starts("4-3-2", 0, 0, 5);
        d.starts("4-3", 0, 0, 5);
        d.due("busiest()", d.x.busiest(), 3, "7");
        d.stamps(1, 3);
        d.due("busiest(): 2 and 3 alike", d.x.busiest(), 2, "3");
        d.stamps(2, 3);
        d.due("busiest()", d.x.busiest(), 2, "3");
        d.x.hours(60);
        d.due("busiest() of those sought", d.x.busiest(), 2, "3");
        d.x.proves(0);
        d.due("busiest()", d.x.busiest(), 2, "2");
        d.stamps(1, 2);
        d.due("busiest() when all are at their ends", d.x.busiest(), -2, "2");
        d.starts("1-0", 0, 0, 5);
        d.due("busiest() is office 0", d.x.busiest(), 0, "8");
    }
}
