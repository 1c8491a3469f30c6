/** Promises 4, 5, 6 and 40: the net, its roads and offices, and how it is written. */
final class NetTest {
    private NetTest() {
    }

    public static void main(String[] args) {
        Check check = new Check("NetTest");
        nets(check);
        aNewNet(check);
        nothingOfTheOldNetStays(check);
        wrongCountries(check);
        wrongRoads(check);
        wrongDuties(check);
        aRefusedNet(check);
        roads(check);
        offices(check);
        written(check);
        check.close();
    }

    private static void nets(Check check) {
        Desk d = new Desk(check);
        d.due("00|", d.net("00|"), 2);
        d.due("00||5", d.net("00||5"), 2);
        d.due("goods", d.x.count(3), 1);
        d.due("the document's", d.net("0012|0-1:5,1-2:7|10,25"), 4);
        d.due("roads", d.x.count(2), 2);
        d.due("goods", d.x.count(3), 2);
        d.due("offices", d.x.count(1), 4);
        d.due("12 offices", d.net("012345012345|10-11:99,11-0:1|999,1,10,100,2,3"), 12);
        d.due("goods", d.x.count(3), 6);
        d.due("office(11, 0)", d.x.office(11, 0), 5);
        d.due("road(0, 11)", d.x.road(0, 11), 1);
        d.due("road(11, 10)", d.x.road(11, 10), 99);
        StringBuilder all = new StringBuilder("00000000|");
        for (int a = 0; a < 8; a++) {
            for (int b = a + 1; b < 8; b++) {
                all.append(a == 0 && b == 1 ? "" : ",").append(b).append('-').append(a).append(":9");
            }
        }
        d.due("28 roads", d.net(all.toString()), 8);
        d.due("roads", d.x.count(2), 28);
        d.due("office(7, 1)", d.x.office(7, 1), 7);
    }

    private static void aNewNet(Check check) {
        Desk d = Desk.at(check, Desk.NET, 9999, 0);
        d.starts("0-1-2", 0, 0, 5);
        d.x.breaks(0);
        d.x.hours(7);
        d.x.keeps();
        d.x.way(0, 4);
        d.due("net()", d.net("11|0-1:3"), 2);
        for (int what : new int[] {0, 3, 4, 5, 6, 7, 8, 9, 10}) {
            d.due("count(" + what + ") after net()", d.x.count(what), 0);
        }
        d.due("undo()", d.x.undo(), -2);
        d.due("back()", d.x.back(), -2);
        d.due("book(0, 0)", d.x.book(0, 0), -1);
        d.due("movement(0, 0)", d.x.movement(0, 0), -1);
        d.due("inUse(0)", d.x.inUse(0), -1);
        d.due("road(0, 1)", d.x.road(0, 1), 3);
        d.due("way(0, 1)", d.x.way(0, 1), 3, "0 1");
        d.due("trader()", d.x.trader(1, 0), 0);
        d.due("inUse(0)", d.x.inUse(0), 0, "1 0 1 0");
    }

    private static void nothingOfTheOldNetStays(Check check) {
        Desk d = Desk.at(check, Desk.NET, 9999, 0);
        d.starts("0-1", 0, 1, 5);
        d.x.breaks(0);
        d.stamps(0, 1);
        d.x.controls(0, 0);
        d.net("00122|0-1:1|10,25");
        d.due("office(0, 1)", d.x.office(0, 1), 1);
        d.due("office(2, 1)", d.x.office(2, 1), 0);
        d.due("gates(0, 2)", d.x.gates(0, 2), -2);
        d.x.trader(9999, 0);
        d.due("starts()", d.starts("0-1", 0, 1, 5), 0);
        d.due("its seal is whole", d.x.movement(0, 9), 0);
        d.due("its debt", d.x.movement(0, 10), 0);
        d.due("count(10)", d.x.count(10), 0);
    }

    private static void refused(Desk d, String net, int p) {
        d.due("net() of " + net, d.net(net), -21 - p);
    }

    private static void wrongCountries(Check check) {
        Desk d = new Desk(check);
        refused(d, "", 0);
        refused(d, "|", 0);
        refused(d, "6", 0);
        refused(d, "x0|", 0);
        refused(d, "0", 1);
        refused(d, "0|", 1);
        refused(d, "06", 1);
        refused(d, "00", 2);
        refused(d, "009|", 2);
        refused(d, "00,", 2);
        refused(d, "000000000000", 12);
        refused(d, "0000000000000|", 12);
        d.due("12 offices", d.net("000000000000|"), 12);
    }

    private static void wrongRoads(Check check) {
        Desk d = new Desk(check);
        refused(d, "00|x", 3);
        refused(d, "00|,", 3);
        refused(d, "00|0", 4);
        refused(d, "00|0:", 4);
        refused(d, "00|01-1:1", 4);
        refused(d, "00|2-1:1", 3);
        refused(d, "00|10-1:1", 4);
        refused(d, "00|51-1:1", 3);
        refused(d, "00|510-1:1", 3);
        refused(d, "00|0-510:1", 5);
        refused(d, "00|0-1:1,1-0:1", 11);
        refused(d, "00|0-", 5);
        refused(d, "00|0-:", 5);
        refused(d, "00|0-0:1", 5);
        refused(d, "00|0-2:1", 5);
        refused(d, "00|0-12:1", 6);
        refused(d, "00|0-1", 6);
        refused(d, "00|0-1-", 6);
        refused(d, "00|0-1:", 7);
        refused(d, "00|0-1:0", 7);
        refused(d, "00|0-1:05", 7);
        refused(d, "00|0-1:100", 9);
        refused(d, "00|0-1:9,", 9);
        refused(d, "00|0-1:9;", 8);
        refused(d, "00|0-1:9,0-1:9", 11);
        refused(d, "00|0-1:9,1-0:9", 11);
        refused(d, "000000000000|10-11:9,11-10:9", 25);
        refused(d, "000000000000|11-11:9", 17);
        refused(d, "000000000000|11-12:9", 17);
        refused(d, "000000000000|111-", 15);
        refused(d, "000000000000|51-1:1", 14);
        officesOfOneDigitOrTwo(d);
        d.due("99 hours", d.net("00|0-1:99"), 2);
        d.due("road(0, 1)", d.x.road(0, 1), 99);
    }

    /** An office has as many digits as the greatest of the net that is told. */
    private static void officesOfOneDigitOrTwo(Desk d) {
        refused(d, "0000000000|1-11:1", 13);
        refused(d, "0000000000|1-10:1", 13);
        refused(d, "0000000000|0-10:1", 14);
        refused(d, "00000000000|1-11:1", 15);
        d.due("11 offices, the greatest 10", d.net("00000000000|1-10:1"), 11);
        refused(d, "00|60-1:1", 3);
        d.due("10 offices, the greatest 9", d.net("0000000000|1-9:1"), 10);
        refused(d, "000000000000|1-12:1", 16);
        d.due("12 offices, the greatest 11", d.net("000000000000|1-11:1"), 12);
    }

    private static void wrongDuties(Check check) {
        Desk d = new Desk(check);
        refused(d, "00||", 4);
        refused(d, "00||x", 4);
        refused(d, "00||0", 4);
        refused(d, "00||01", 4);
        refused(d, "00||1000", 7);
        refused(d, "00||1,", 6);
        refused(d, "00||1,,", 6);
        refused(d, "00||1|", 5);
        refused(d, "00||1,2,3,4,5,6,7", 15);
        refused(d, "00|0-1:9|", 9);
        refused(d, "00|0-1:9|5 ", 10);
        d.due("6 duties", d.net("00||1,2,3,4,5,999"), 2);
        d.due("count(3)", d.x.count(3), 6);
    }

    private static void aRefusedNet(Check check) {
        Desk d = Desk.at(check, Desk.NET, 9999, 0);
        d.starts("0-1-2", 0, 0, 5);
        d.x.keeps();
        refused(d, "33|0-1:9|7,", 11);
        d.due("count(1)", d.x.count(1), 5);
        d.due("count(5)", d.x.count(5), 1);
        d.due("count(6)", d.x.count(6), 2);
        d.due("road(0, 1)", d.x.road(0, 1), 5);
        d.due("office(0, 0)", d.x.office(0, 0), 0);
        check.due("written", d.written(), "00122|0-1:5,0-2:15,1-2:7,1-3:12,2-3:4,3-4:6|10,25");
        d.due("back()", d.x.back(), 0);
        d.due("starts()", d.starts("0-1-2", 0, 1, 5), 1);
        d.due("movement(1, 4)", d.x.movement(1, 4), 125);
    }

    private static void roads(Check check) {
        Desk d = Desk.at(check, Desk.NET);
        d.due("road(1, 2)", d.x.road(1, 2), 7);
        d.due("road(2, 1)", d.x.road(2, 1), 7);
        d.due("road(0, 3)", d.x.road(0, 3), -2);
        d.due("road(1, 1)", d.x.road(1, 1), -2);
        d.due("road(0, 5)", d.x.road(0, 5), -1);
        d.due("road(5, 0)", d.x.road(5, 0), -1);
        d.due("road(-1, 0)", d.x.road(-1, 0), -1);
        d.due("road(0, -1)", d.x.road(0, -1), -1);
        d.due("road(least, greatest)", d.x.road(Integer.MIN_VALUE, Integer.MAX_VALUE), -1);
    }

    private static void offices(Check check) {
        Desk d = Desk.at(check, Desk.NET, 99999, 0);
        d.due("office(2, 0)", d.x.office(2, 0), 1);
        d.due("office(4, 0)", d.x.office(4, 0), 2);
        d.due("office(2, 1)", d.x.office(2, 1), 3);
        d.due("office(4, 1)", d.x.office(4, 1), 1);
        d.due("office(0, 2)", d.x.office(0, 2), 0);
        d.due("office(0, 3)", d.x.office(0, 3), -1);
        d.due("office(0, -1)", d.x.office(0, -1), -1);
        d.due("office(5, 0)", d.x.office(5, 0), -1);
        d.due("office(-1, 0)", d.x.office(-1, 0), -1);
        d.starts("0-1-2", 0, 0, 1);
        d.starts("1-2", 0, 0, 1);
        d.starts("0-1", 0, 0, 1);
        d.due("office(0, 2)", d.x.office(0, 2), 5);
        d.due("office(1, 2)", d.x.office(1, 2), 2);
        d.stamps(0, 1);
        d.stamps(2, 1);
        // Movement 2 is arrived now, so it is not told any more.
        d.due("office(0, 2)", d.x.office(0, 2), 0);
        d.due("office(1, 2)", d.x.office(1, 2), 3);
        d.x.hours(49);
        d.due("movement(0, 3)", d.x.movement(0, 3), 3);
        d.due("office(1, 2) of those sought", d.x.office(1, 2), 3);
        d.x.proves(0);
        d.due("office(1, 2) of one closed", d.x.office(1, 2), 2);
    }

    private static void written(Check check) {
        Desk d = Desk.at(check, Desk.NET);
        check.due("written", d.written(), "00122|0-1:5,0-2:15,1-2:7,1-3:12,2-3:4,3-4:6|10,25");
        d.due("written(-1)", d.x.written(-1), 49);
        d.due("written(0)", d.x.written(0), '0');
        d.due("written(48)", d.x.written(48), '5');
        d.due("written(49)", d.x.written(49), -1);
        d.due("written(-2)", d.x.written(-2), -1);
        d.due("written(least)", d.x.written(Integer.MIN_VALUE), -1);
        d.due("written(greatest)", d.x.written(Integer.MAX_VALUE), -1);
        d.net("012345012345|11-2:30,10-9:4,2-10:7,3-2:99|100,20,3");
        check.due("written", d.written(), "012345012345|2-3:99,2-10:7,2-11:30,9-10:4|100,20,3");
        d.net("54||999");
        check.due("written", d.written(), "54||999");
        d.net("00000000|4-5:1,7-6:1");
        check.due("written", d.written(), "00000000|4-5:1,6-7:1");
        d.net("54|1-0:10");
        check.due("written", d.written(), "54|0-1:10");
        d.due("written(-1)", d.x.written(-1), 9);
    }
}
