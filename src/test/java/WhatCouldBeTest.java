/** Promises 32 to 38: what could start, be freed, be lost. */
final class WhatCouldBeTest {
    private WhatCouldBeTest() {
    }

    public static void main(String[] args) {
        Check check = new Check("WhatCouldBeTest");
        can(check);
        frees(check);
        freesLeastBits(check);
        when(check);
        whenLate(check);
        whenJustInTime(check);
        freesOfTwenty(check);
        fits(check);
        fitsWhenThereAreTwenty(check);
        fitsEqual(check);
        wrongLoads(check);
        detour(check);
        risk(check);
        tightest(check);
        check.close();
    }

    private static void can(Check check) {
        Desk d = Desk.at(check, Desk.NET, 99, 0, 99, 1, 99, 2, 0, 3, 0, 2, 999999, 0);
        d.due("can(0, 0)", d.x.can(0, 0), 9, "90");
        d.due("can(0, 1)", d.x.can(0, 1), 3, "75");
        d.due("can(1, 0)", d.x.can(1, 0), 19, "95");
        d.due("can(1, 1)", d.x.can(1, 1), 7, "88");
        d.due("can(2, 0)", d.x.can(2, 0), 99, "99");
        d.due("can(2, 1)", d.x.can(2, 1), 39, "98");
        d.due("can(3, 1)", d.x.can(3, 1), 999, "0");
        d.due("can(4, 1)", d.x.can(4, 1), 0, "0");
        d.due("can(5, 1)", d.x.can(5, 1), 999, "24975");
        d.due("can(6, 0)", d.x.can(6, 0), -1, "24975");
        d.due("can(-1, 0)", d.x.can(-1, 0), -1);
        d.due("can(0, 2)", d.x.can(0, 2), -1);
        d.due("can(0, -1)", d.x.can(0, -1), -1);
        d.starts("0-1", 0, 0, 5);
        d.due("can(0, 0) with 50 in use", d.x.can(0, 0), 4, "40");
        for (int m = 1; m < 20; m++) {
            d.starts("0-1", 3, 0, 1);
        }
        d.due("can(0, 0) when there are 20", d.x.can(0, 0), 4, "40");
        d.net("00|0-1:1|3");
        d.x.trader(50, 1);
        // Half of 99 is 50, rounded up; half of 102 would be 51.
        d.due("can(0, 0) rounded up", d.x.can(0, 0), 33, "50");
        d.net("00|0-1:1|1");
        d.x.trader(50, 0);
        d.due("can(0, 0) of duty 1", d.x.can(0, 0), 50, "50");
    }

    private static void frees(Check check) {
        Desk d = Desk.at(check, "000|0-1:1,1-2:1|1,10", 1000, 0, 50, 0);
        d.due("frees(0, 1000)", d.x.frees(0, 1000), 0, "0");
        d.due("frees(0, 1001)", d.x.frees(0, 1001), -2, "0");
        d.starts("0-1", 0, 0, 100);
        d.starts("0-1", 0, 0, 300);
        d.starts("0-1", 1, 0, 50);
        d.starts("0-1", 0, 0, 200);
        d.starts("0-1", 0, 0, 350);
        d.due("frees(0, 0)", d.x.frees(0, 0), 0, "0");
        d.due("frees(0, 50)", d.x.frees(0, 50), 0, "0");
        d.due("frees(0, 51)", d.x.frees(0, 51), 1, "1");
        d.due("frees(0, 151)", d.x.frees(0, 151), 1, "2");
        d.due("frees(0, 351)", d.x.frees(0, 351), 1, "16");
        d.due("frees(0, 401)", d.x.frees(0, 401), 2, "3");
        d.due("frees(0, 451)", d.x.frees(0, 451), 2, "10");
        d.due("frees(0, 601)", d.x.frees(0, 601), 2, "18");
        d.due("frees(0, 701)", d.x.frees(0, 701), 3, "19");
        d.due("frees(0, 1000)", d.x.frees(0, 1000), 4, "27");
        d.due("frees(0, 1001)", d.x.frees(0, 1001), -2, "27");
        d.due("frees(0, -1)", d.x.frees(0, -1), -1);
        d.due("frees(0, 1000000)", d.x.frees(0, 1000000), -1);
        d.due("frees(0, 999999)", d.x.frees(0, 999999), -2);
        d.due("frees(2, 1)", d.x.frees(2, 1), -1);
        d.due("frees(-1, 1)", d.x.frees(-1, 1), -1, "27");
        d.stamps(4, 1);
        d.x.controls(4, 350);
        d.due("frees(0, 401), one is closed", d.x.frees(0, 401), 1, "1");
        d.stamps(3, 1);
        d.x.controls(3, 0);
        d.due("frees(0, 601), one is owed", d.x.frees(0, 601), 1, "2");
        d.due("frees(0, 701)", d.x.frees(0, 701), 2, "3");
        d.due("frees(0, 900)", d.x.frees(0, 900), 2, "10");
        d.x.hours(27);
        d.due("frees(0, 1000), two are sought", d.x.frees(0, 1000), 3, "11");
    }

    private static void freesLeastBits(Check check) {
        Desk d = Desk.at(check, "000|0-1:1,1-2:1|1,10", 1000, 0);
        for (int units : new int[] {100, 250, 150, 200, 100, 200}) {
            d.starts("0-1", 0, 0, units);
        }
        d.due("frees(0, 100)", d.x.frees(0, 100), 1, "1");
        d.due("frees(0, 101)", d.x.frees(0, 101), 1, "2");
        d.due("frees(0, 350): 1 and 0", d.x.frees(0, 350), 2, "3");
        d.due("frees(0, 351): 2 and 1", d.x.frees(0, 351), 2, "6");
        d.due("frees(0, 401): 3 and 1", d.x.frees(0, 401), 2, "10");
        d.due("frees(0, 500): 2, 1 and 0", d.x.frees(0, 500), 3, "7");
        d.due("frees(0, 501): 3, 1 and 0", d.x.frees(0, 501), 3, "11");
        d.due("frees(0, 650): 5, 3 and 1", d.x.frees(0, 650), 3, "42");
        d.due("frees(0, 700): all of 0 to 3", d.x.frees(0, 700), 4, "15");
    }

    private static void when(Check check) {
        Desk d = Desk.at(check, Desk.NET, 1000, 0);
        d.due("when(0, 1000)", d.x.when(0, 1000), 0);
        d.x.hours(10);
        d.starts("0-1-2-3", 0, 0, 50);
        d.starts("0-2", 0, 0, 30);
        d.starts("3-4", 0, 0, 15);
        d.due("when(0, 0)", d.x.when(0, 0), 10);
        d.due("when(0, 50)", d.x.when(0, 50), 10);
        d.due("when(0, 51): the third ends", d.x.when(0, 51), 16);
        d.due("when(0, 200)", d.x.when(0, 200), 16);
        d.due("when(0, 201): the second, too", d.x.when(0, 201), 25);
        d.due("when(0, 501): the first, too", d.x.when(0, 501), 26);
        d.due("when(0, 1000)", d.x.when(0, 1000), 26);
        d.due("when(0, 1001)", d.x.when(0, 1001), -2);
        d.due("when(0, -1)", d.x.when(0, -1), -1);
        d.due("when(0, 1000000)", d.x.when(0, 1000000), -1);
        d.due("when(1, 5)", d.x.when(1, 5), -1);
        d.due("when(-1, 5)", d.x.when(-1, 5), -1);
        d.x.hours(8);
        d.due("when(0, 51): now, as that is past", d.x.when(0, 51), 18);
        d.due("when(0, 201)", d.x.when(0, 201), 25);
        d.stamps(1, 2);
        d.due("when(0, 201), one is arrived", d.x.when(0, 201), 18);
        d.stamps(0, 1);
        d.due("when(0, 501): 11 hours from its stamp on", d.x.when(0, 501), 29);
        check.due("when() tells no row", d.row(), "");
    }

    private static void whenJustInTime(Check check) {
        Desk d = Desk.at(check, "0000|0-1:10,1-2:20,2-3:30|5", 500, 0);
        d.starts("0-1-2-3", 0, 0, 100);
        d.x.hours(94);
        d.stamps(0, 1);
        d.due("late()", d.x.late(), 0);
        d.due("when(0, 500) at its very term", d.x.when(0, 500), 144);
        d.due("movement(0, 6)", d.x.movement(0, 6), 144);
    }

    private static void freesOfTwenty(Check check) {
        Desk d = Desk.at(check, "00|0-1:1|1", 1000, 0);
        for (int m = 0; m < 20; m++) {
            d.starts("0-1", 0, 0, m == 19 ? 620 : 20);
        }
        d.due("frees(0, 21)", d.x.frees(0, 21), 1, "524288");
        d.due("frees(0, 20)", d.x.frees(0, 20), 1, "1");
        d.due("frees(0, 640)", d.x.frees(0, 640), 2, "524289");
        d.due("frees(0, 980)", d.x.frees(0, 980), 19, String.valueOf((1 << 18) - 1 | 1 << 19));
        d.due("frees(0, 1000) of all twenty", d.x.frees(0, 1000), 20, "1048575");
        d.due("frees(0, 1001)", d.x.frees(0, 1001), -2);
    }

    private static void whenLate(Check check) {
        Desk d = Desk.at(check, "0000|0-1:10,1-2:20,2-3:30|5", 1000, 0);
        d.starts("0-1-2-3", 0, 0, 100);
        d.starts("0-1", 0, 0, 60);
        d.due("when(0, 700)", d.x.when(0, 700), 60);
        d.due("when(0, 701)", d.x.when(0, 701), 60);
        d.x.hours(45);
        d.due("movement(1, 3)", d.x.movement(1, 3), 3);
        d.due("when(0, 700), one is sought", d.x.when(0, 700), 60);
        d.due("when(0, 701): never that one", d.x.when(0, 701), -2);
        d.x.hours(50);
        d.stamps(0, 1);
        d.due("late()", d.x.late(), 1);
        d.due("when(0, 201), one is late", d.x.when(0, 201), -2);
        d.due("when(0, 200)", d.x.when(0, 200), 95);
        d.stamps(1, 1);
        d.due("when(0, 500), one is arrived", d.x.when(0, 500), 95);
        d.x.controls(1, 59);
        d.due("when(0, 500), one is owed", d.x.when(0, 500), -2);
        d.x.pays(1);
        d.due("when(0, 500), one is paid", d.x.when(0, 500), 95);
    }

    private static void fits(Check check) {
        Desk d = Desk.at(check, Desk.NET, 1000, 0, 100, 1, 0, 3, 98, 2);
        d.due("fits() of none", d.fits("", 0), 0, "0 0");
        d.due("fits() of one", d.fits("0:100", 0), 1, "100 1000");
        d.due("fits() of one too great", d.fits("0:101", 0), 0, "0 0");
        d.due("fits() of two", d.fits("0:90,1:5", 0), 1, "90 900");
        d.due("fits() of most units", d.fits("1:39,0:40,0:60,1:1", 0), 6, "100 1000");
        d.due("fits() of half", d.fits("1:3,1:3,1:3", 1), 3, "6 76");
        d.due("fits() of free", d.fits("0:999,1:999,0:999,1:999,0:999,1:999,0:999,1:999", 2), 255, "7992 0");
        d.due("fits() of a tenth, each rounded up", d.fits("1:13,1:13,1:13", 3), 3, "26 66");
        d.due("fits() of no trader", d.fits("0:1", 4), -1, "26 66");
        d.due("fits() of trader -1", d.fits("0:1", -1), -1);
        d.starts("0-1", 0, 0, 95);
        d.due("fits() with 950 in use", d.fits("1:2,0:4,1:1,0:2", 0), 2, "4 40");
        d.due("fits() of a wrong text and no trader", d.fits("0:1,", 9), -25);
    }

    private static void fitsWhenThereAreTwenty(Check check) {
        Desk d = Desk.at(check, Desk.NET, 1000, 0);
        for (int m = 0; m < 20; m++) {
            d.starts("0-1", 0, 0, 1);
        }
        d.due("fits() when there are 20", d.fits("0:80,1:1", 0), 1, "80 800");
    }

    private static void fitsEqual(Check check) {
        Desk d = Desk.at(check, Desk.NET, 100, 0);
        d.due("of like units the least shares", d.fits("1:2,0:2", 0), 3, "4 70");
        d.due("of like units the least shares", d.fits("1:3,0:3", 0), 2, "3 30");
        d.due("of like shares the least bits", d.fits("0:6,0:6", 0), 1, "6 60");
        d.due("of like shares the least bits", d.fits("0:4,0:6,0:10,0:5,0:5", 0), 3, "10 100");
        d.due("of like units two for one", d.fits("0:10,0:5,0:5", 0), 1, "10 100");
        for (int m = 0; m < 20; m++) {
            d.starts("0-1", 0, 0, 1);
        }
        d.due("ten movements take all", d.x.count(5), 10);
        d.due("nothing is free", d.fits("0:1,0:1", 0), 0, "0 0");
    }

    private static void wrongLoads(Check check) {
        Desk d = Desk.at(check, Desk.NET, 99999, 0);
        String[] loads = {"x", ":", "2:1", "0", "0x", "00:1", "0:", "0:x", "0:0", "0:01", "0:1,", "0:1;", "0:1,2:1", "0:1000",
            "0:1,1:2,0:1,1:2,0:1,1:2,0:1,1:2,0:1", "0:1,1:2,0:1,1:2,0:1,1:2,0:1,1:2x", "23:1", "10:1"};
        int[] places = {0, 0, 0, 1, 1, 1, 2, 2, 2, 2, 4, 3, 4, 5, 31, 31, 0, 1};
        for (int i = 0; i < loads.length; i++) {
            d.due("fits() of " + loads[i], d.fits(loads[i], 0), -21 - places[i]);
        }
        d.due("8 loads", d.fits("0:1,1:2,0:1,1:2,0:1,1:2,0:1,1:2", 0), 255, "12 240");
        d.net("00|");
        d.x.trader(5, 3);
        d.due("no goods", d.fits("0:1", 0), -21);
        d.due("no goods, no loads", d.fits("", 0), 0, "0 0");
    }

    private static void detour(Check check) {
        Desk d = Desk.at(check, Desk.NET);
        d.due("detour() of 0-1", d.detour("0-1"), 0, "5 34");
        d.due("detour() of 0-2", d.detour("0-2"), 3, "15 54");
        d.x.hours(100);
        d.due("detour() of 4-3-1-2-0", d.detour("4-3-1-2-0"), 18, "40 204");
        d.due("detour() of 0-3", d.detour("0-3"), -23, "40 204");
        d.due("detour() of none", d.detour(""), -21);
        d.due("detour() of one", d.detour("4"), -22);
        d.due("count(5)", d.x.count(5), 0);
    }

    private static void risk(Check check) {
        Desk d = Desk.at(check, Desk.NET, 9999, 2);
        d.starts("0-1-2", 0, 1, 13);
        d.starts("2-3", 0, 0, 3);
        d.starts("0-1-2-3-4", 0, 0, 4);
        d.due("risk(0)", d.x.risk(0), 325, "292 0");
        d.due("risk(1)", d.x.risk(1), 30, "27 1");
        d.stamps(0, 1, 2);
        d.due("risk(0), arrived", d.x.risk(0), 325, "292 1");
        d.x.hours(60);
        d.due("risk(1), sought", d.x.risk(1), 30, "27 1");
        d.x.proves(1);
        d.due("risk(1), closed", d.x.risk(1), -2, "27 1");
        d.x.controls(0, 12);
        d.due("risk(0), owed", d.x.risk(0), -2);
        d.x.pays(0);
        d.due("risk(0), paid", d.x.risk(0), -2);
        d.due("risk(2)", d.x.risk(2), 40, "36 0");
        d.due("risk(3)", d.x.risk(3), -1);
        d.due("risk(-1)", d.x.risk(-1), -1);
    }

    private static void tightest(Check check) {
        Desk d = Desk.at(check, Desk.NET);
        d.due("tightest() of none", d.x.tightest(), -2, "");
        d.x.trader(0, 0);
        d.x.trader(3000, 0);
        d.due("tightest(): nothing is in use", d.x.tightest(), 0, "0");
        d.x.trader(999999, 0);
        d.starts("0-1", 1, 0, 100);
        d.due("tightest()", d.x.tightest(), 1, "333");
        d.x.trader(600, 0);
        d.starts("0-1", 3, 0, 20);
        d.due("tightest(): of equal ones the first", d.x.tightest(), 1, "333");
        d.x.sums(3, 599, 0);
        d.due("tightest(): cut, so still equal", d.x.tightest(), 1, "333");
        d.x.sums(3, 598, 0);
        d.due("tightest()", d.x.tightest(), 3, "334");
        d.x.sums(1, 1000, 0);
        d.due("tightest()", d.x.tightest(), 1, "1000");
    }
}
