import java.io.IOException;

/** Each sentence of promises 1 to 9 and 40: a new object, THE TEXT, the NET and what follows from it alone. */
final class EdgesOfNetTest {
    private static final String LINE = EdgesOfTermsTest.LINE;

    private EdgesOfNetTest() {
    }

    public static void main(String[] args) throws IOException {
        Edges e = new Edges("EdgesOfNetTest", "Promise 1", "Promise 2", "Promise 3", "Promise 4", "Promise 5", "Promise 6",
            "Promise 7", "Promise 8", "Promise 9", "Promise 40");
        e.of("Promise 1", "Two OFFICES of COUNTRY 0, no ROADS, no GOODS, TRADERS.", EdgesOfNetTest::aNewObject);
        e.of("Promise 2", "Four signs come behind THE TEXT, of v the highest byte first: how many it has.", EdgesOfNetTest::fourSigns);
        e.of("Promise 2", "Refused: there would be more than 200.", EdgesOfNetTest::moreThan200Signs);
        e.of("Promise 3", "THE TEXT has its first n signs alone: true;", EdgesOfNetTest::firstSignsAlone);
        e.of("Promise 3", "false if it has not so many, or n is below 0.", EdgesOfNetTest::notSoManySigns);
        nets(e);
        asks(e);
        e.of("Promise 40", "Sign i of the NET, written as net() reads it, ROADS by the lesser OFFICE, then the other one, the lesser ahead;",
            EdgesOfNetTest::writtenSigns);
        e.of("Promise 40", "i NONE: how many signs.", EdgesOfNetTest::howManyWritten);
        e.of("Promise 40", "NONE: no such sign.", EdgesOfNetTest::noSuchSign);
        e.close();
    }

    private static void nets(Edges e) {
        String net = "Promise 4";
        e.of(net, "THE TEXT is the NET, all else is as at first then (no ROW, nothing to be undone, nothing kept):",
            EdgesOfNetTest::allElseIsAsAtFirst);
        e.of(net, "COUNTRIES of OFFICES 0, 1, .. (a digit each), |,", EdgesOfNetTest::countries);
        e.of(net, "ROADS with , between (perhaps none):", EdgesOfNetTest::roadsPerhapsNone);
        e.of(net, "OFFICE - OFFICE : HOURS;", EdgesOfNetTest::aRoad);
        e.of(net, "then perhaps | and DUTIES of GOODS 0, 1, .. with , between: as 0012|0-1:5,1-2:7|10,25: how many OFFICES.",
            EdgesOfNetTest::perhapsDuties);
        e.of(net, "-21 - p (a 13th OFFICE: it;", EdgesOfNetTest::a13thOffice);
        e.of(net, "the second OFFICE of a ROAD, if both are one, or there is such a ROAD already, either way round: its last digit;",
            EdgesOfNetTest::secondOffices);
        e.of(net, "a 41st ROAD, a 7th DUTY: the , ahead of it).", EdgesOfNetTest::a7thDuty);
        // 200 signs hold no 41 roads: the most that they hold are read.
        e.of(net, "a 41st ROAD,", EdgesOfNetTest::mostRoads);
    }

    private static void asks(Edges e) {
        e.of("Promise 5", "HOURS of the ROAD between two OFFICES.", EdgesOfNetTest::hoursOfRoads);
        e.of("Promise 5", "-2: there is none.", EdgesOfNetTest::noRoad);
        e.of("Promise 6", "Of an OFFICE what 0: COUNTRY, 1: how many ROADS,", EdgesOfNetTest::countryAndRoads);
        e.of("Promise 6", "2: MOVEMENTS that are ROLLING or SOUGHT and were SEEN there last, as bits.", EdgesOfNetTest::seenThere);
        e.of("Promise 6", "NONE: another what.", EdgesOfNetTest::anotherWhat);
        e.of("Promise 7", "The fewest HOURS from an OFFICE to another one by ROADS (0: it is one);", EdgesOfNetTest::fewestHours);
        e.of("Promise 7", "the ROW: the OFFICES, of like ways the first row.", EdgesOfNetTest::firstOfLikeWays);
        e.of("Promise 7", "-2: there is none.", EdgesOfNetTest::noWay);
        e.of("Promise 8", "How many ROUTES (2 to 8 unlike OFFICES) lead from an OFFICE to another one;", EdgesOfNetTest::twoToEightOffices);
        e.of("Promise 8", "the ROW: the least SPAN, the greatest one.", EdgesOfNetTest::leastAndGreatestSpan);
        e.of("Promise 8", "NONE: they are one, too;", EdgesOfNetTest::routesToItself);
        e.of("Promise 8", "-2: none.", EdgesOfNetTest::noRoutes);
        e.of("Promise 9", "OFFICES, other than these two, that all ROUTES from one to another one pass, as bits;", EdgesOfNetTest::gates);
        e.of("Promise 9", "the ROW: how many.", EdgesOfNetTest::howManyGates);
        e.of("Promise 9", "NONE, -2 likewise.", EdgesOfNetTest::noGates);
    }

    // ---- a new object and its text

    private static void aNewObject(Check check) {
        TransitSeals x = new TransitSeals();
        check.due("count(1)", x.count(1), 2);
        check.due("count(2)", x.count(2), 0);
        check.due("count(3)", x.count(3), 0);
        check.due("count(4)", x.count(4), 0);
        check.due("count(5)", x.count(5), 0);
        check.due("count(6)", x.count(6), 0);
        check.due("count(7)", x.count(7), 0);
        check.due("count(8)", x.count(8), 0);
        check.due("count(9)", x.count(9), 0);
        check.due("office(0, 0)", x.office(0, 0), 0);
        check.due("office(1, 0)", x.office(1, 0), 0);
        check.due("office(2, 0)", x.office(2, 0), -1);
        check.due("road(0, 1)", x.road(0, 1), -2);
        check.due("way(0, 1)", x.way(0, 1), -2);
        check.due("routes(0, 1)", x.routes(0, 1), -2);
        check.due("trader(0, 0): the first one", x.trader(0, 0), 0);
        check.due("can(0, 0): no goods", x.can(0, 0), -1);
    }

    private static void fourSigns(Check check) {
        TransitSeals x = new TransitSeals();
        check.due("sign() of 00|0", x.sign('0' << 24 | '0' << 16 | '|' << 8 | '0'), 4);
        check.due("sign() of -1:9", x.sign('-' << 24 | '1' << 16 | ':' << 8 | '9'), 8);
        check.due("net()", x.net(), 2);
        check.due("road(0, 1)", x.road(0, 1), 9);
        // Each byte of 128 and more: no sign below 0, and none of the others is touched.
        check.due("sign(-1)", x.sign(-1), 4);
        check.due("net() of signs 255", x.net(), -21);
        check.due("sign() of 00| and 128", x.sign('0' << 24 | '0' << 16 | '|' << 8 | 128), 4);
        check.due("net() of 00| and 128", x.net(), -24);
        check.due("sign(0)", x.sign(0), 4);
        check.due("sign(least)", x.sign(Integer.MIN_VALUE), 8);
        check.due("sign(greatest)", x.sign(Integer.MAX_VALUE), 12);
    }

    private static void moreThan200Signs(Check check) {
        TransitSeals x = new TransitSeals();
        for (int i = 1; i < 50; i++) {
            x.sign(0x30303030);
        }
        check.due("sign() behind 196", x.sign(0), 200);
        check.due("sign() behind 200", x.sign(0), -1);
        for (int many = 199; many > 196; many--) {
            x.end(many);
            check.due("sign() behind " + many, x.sign(0), -1);
            check.due("count(9)", x.count(9), many);
        }
        x.end(196);
        check.due("sign() behind 196", x.sign(0), 200);
        // A full text is read as any other: this net has 200 signs, and a road more would be behind it.
        Desk d = new Desk(check);
        String full = roads(9, 31) + "|1,22";
        d.due("signs of the longest net", full.length(), 200);
        d.dueNet(full, 9);
        d.due("count(2)", d.x.count(2), 31);
        check.due("written", d.written(), full);
        d.text(full);
        d.due("sign() behind it", d.x.sign(0x30303030), -1);
        d.due("net()", d.x.net(), 9);
    }

    private static void firstSignsAlone(Check check) {
        TransitSeals x = new TransitSeals();
        check.due("end(0) of none", x.end(0), true);
        x.sign(0x30307c7c);
        check.due("end(4) of four", x.end(4), true);
        check.due("count(9)", x.count(9), 4);
        check.due("end(3)", x.end(3), true);
        check.due("count(9)", x.count(9), 3);
        check.due("net() of 00|", x.net(), 2);
        x.sign(0x30307c7c);
        check.due("end(0) of four", x.end(0), true);
        check.due("count(9)", x.count(9), 0);
        check.due("net() of none", x.net(), -21);
    }

    private static void notSoManySigns(Check check) {
        TransitSeals x = new TransitSeals();
        check.due("end(1) of none", x.end(1), false);
        x.sign(0x30307c35);
        for (int n : new int[] {5, 200, 201, Integer.MAX_VALUE, -1, Integer.MIN_VALUE}) {
            check.due("end(" + n + ") of four", x.end(n), false);
            check.due("count(9)", x.count(9), 4);
        }
    }

    // ---- nets

    /** So many offices, and so many roads of one hour between the first of them. */
    private static String roads(int offices, int many) {
        StringBuilder net = new StringBuilder("0".repeat(offices)).append('|');
        int roads = 0;
        for (int a = 0; a < offices; a++) {
            for (int b = a + 1; b < offices && roads < many; b++) {
                net.append(roads == 0 ? "" : ",").append(a).append('-').append(b).append(":1");
                roads++;
            }
        }
        return net.toString();
    }

    private static void allElseIsAsAtFirst(Check check) {
        Desk d = Twins.busy(check);
        d.due("net() of the busy desk's text", d.x.net(), 2);
        long[] counts = {0, 2, 1, 0, 0, 0, 0, 0, 0, 0, 0};
        for (int what = 0; what < counts.length; what++) {
            d.due("count(" + what + ")", d.x.count(what), counts[what]);
        }
        check.due("row(0)", d.hasRow(0), false);
        d.due("undo()", d.x.undo(), -2);
        d.due("back()", d.x.back(), -2);
        d.due("book(0, 0)", d.x.book(0, 0), -1);
        d.due("inUse(0)", d.x.inUse(0), -1);
        d.due("movement(0, 0)", d.x.movement(0, 0), -1);
        d.due("office(2, 0)", d.x.office(2, 0), -1);
        d.due("office(0, 2)", d.x.office(0, 2), 0);
        d.due("can(0, 0)", d.x.can(0, 0), -1);
        check.due("written", d.written(), "00|0-1:7");
        // As many offices and movements again, so that all that was there before could be seen.
        d.net("00000|0-1:7|10");
        d.due("count(2)", d.x.count(2), 1);
        d.due("count(3)", d.x.count(3), 1);
        d.due("office(0, 1)", d.x.office(0, 1), 1);
        d.due("way(0, 2)", d.x.way(0, 2), -2);
        d.x.trader(9999, 0);
        for (int m = 0; m < Twins.MOVEMENTS; m++) {
            d.dueStarts("0-1", 0, 0, 1, m);
            d.due("its stamps", d.x.movement(m, 7), 1);
            d.due("its seal", d.x.movement(m, 9), 0);
            d.due("its debt", d.x.movement(m, 10), 0);
        }
        d.due("count(10)", d.x.count(10), 0);
        d.due("inUse(0)", d.x.inUse(0), 70, "9999 0 9929 127");
    }

    private static void countries(Check check) {
        Desk d = new Desk(check);
        d.dueNet("", -21);
        d.dueNet("|", -21);
        d.dueNet("6|", -21);
        d.dueNet("0", -22);
        d.dueNet("0|", -22);
        d.dueNet("06|", -22);
        d.dueNet("00", -23);
        d.dueNet("006|", -23);
        d.dueNet("00,", -23);
        d.dueNet("0,0|", -22);
        d.dueNet("000000000000", -33);
        d.dueNet("05|", 2);
        d.dueNet("012345543210|", 12);
        for (int o = 0; o < 12; o++) {
            d.due("office(" + o + ", 0)", d.x.office(o, 0), Math.min(o, 11 - o));
        }
    }

    private static void roadsPerhapsNone(Check check) {
        Desk d = new Desk(check);
        d.dueNet("000|", 3);
        d.due("count(2)", d.x.count(2), 0);
        d.dueNet("000||5", 3);
        d.due("count(2)", d.x.count(2), 0);
        d.dueNet("000|0-1:1", 3);
        d.due("count(2)", d.x.count(2), 1);
        d.dueNet("000|0-1:1,2-1:1", 3);
        d.due("count(2)", d.x.count(2), 2);
        d.dueNet("000|,0-1:1", -25);
        d.dueNet("000|0-1:1,", -31);
        d.dueNet("000|0-1:1,,1-2:1", -31);
        d.dueNet("000|0-1:1 1-2:1", -30);
        d.dueNet("000|0-1:1,|5", -31);
    }

    private static void aRoad(Check check) {
        Desk d = new Desk(check);
        d.dueNet("00|x", -24);
        d.dueNet("00|0", -25);
        d.dueNet("00|0:", -25);
        d.dueNet("00|0-", -26);
        d.dueNet("00|0--1", -26);
        d.dueNet("00|0-1", -27);
        d.dueNet("00|0-1-", -27);
        d.dueNet("00|0-1:", -28);
        d.dueNet("00|0-1:-1", -28);
        d.dueNet("00|0-1:1", 2);
        d.dueNet("00|2-1:1", -24);
        d.dueNet("00|0-2:1", -26);
        d.dueNet("000|2-1:99", 3);
        d.due("road(1, 2)", d.x.road(1, 2), 99);
    }

    private static void perhapsDuties(Check check) {
        Desk d = new Desk(check);
        d.dueNet("0012|0-1:5,1-2:7|10,25", 4);
        d.due("count(1)", d.x.count(1), 4);
        d.due("count(2)", d.x.count(2), 2);
        d.due("count(3)", d.x.count(3), 2);
        d.x.trader(100, 0);
        d.due("can(0, 0)", d.x.can(0, 0), 10, "100");
        d.due("can(0, 1)", d.x.can(0, 1), 4, "100");
        d.dueNet("00||", -25);
        d.dueNet("00|0-1:5|", -30);
        d.dueNet("00||,1", -25);
        d.dueNet("00||1,", -27);
        d.dueNet("00||1,,2", -27);
        d.dueNet("00||1|", -26);
        d.dueNet("00||1", 2);
        d.due("count(3)", d.x.count(3), 1);
        d.dueNet("00|", 2);
        d.due("count(3)", d.x.count(3), 0);
    }

    private static void a13thOffice(Check check) {
        Desk d = new Desk(check);
        d.dueNet("0000000000000|", -33);
        d.dueNet("00000000000000000000|", -33);
        d.dueNet("0000000000009|", -33);
        d.dueNet("000000000000|", 12);
    }

    private static void secondOffices(Check check) {
        Desk d = new Desk(check);
        d.dueNet("00|0-0:1", -26);
        d.dueNet("00|1-1:1", -26);
        d.dueNet("000|0-1:1,0-1:2", -33);
        d.dueNet("000|0-1:1,1-0:2", -33);
        d.dueNet("000|0-1:1,1-2:2,2-1:1", -39);
        d.dueNet("000|0-1:1,1-2:2,2-0:1", 3);
        d.dueNet("000000000000|11-11:1", -21 - 17);
        d.dueNet("000000000000|10-11:1,11-10:1", -21 - 25);
        d.dueNet("000000000000|11-1:1,1-11:1", -21 - 23);
        d.dueNet("000000000000|11-1:1,11-10:1", 12);
    }

    private static void a7thDuty(Check check) {
        Desk d = new Desk(check);
        d.dueNet("00||1,2,3,4,5,6", 2);
        d.due("count(3)", d.x.count(3), 6);
        d.dueNet("00||1,2,3,4,5,6,", -36);
        d.dueNet("00||1,2,3,4,5,6,7", -36);
        d.dueNet("00||1,2,3,4,5,999,7", -38);
        d.due("count(3) of the net that stays", d.x.count(3), 6);
    }

    private static void mostRoads(Check check) {
        Desk d = new Desk(check);
        d.dueNet(roads(9, 31), 9);
        d.due("count(2)", d.x.count(2), 31);
        d.due("office(0, 1)", d.x.office(0, 1), 8);
        d.dueNet(roads(8, 28), 8);
        d.due("count(2): all there may be", d.x.count(2), 28);
        d.due("office(7, 1)", d.x.office(7, 1), 7);
    }

    // ---- what follows from the net

    private static void hoursOfRoads(Check check) {
        Desk d = Desk.at(check, "000|0-1:1,1-2:99");
        d.due("road(0, 1)", d.x.road(0, 1), 1);
        d.due("road(2, 1)", d.x.road(2, 1), 99);
        d.due("road(3, 0)", d.x.road(3, 0), -1);
        d.due("road(0, 3)", d.x.road(0, 3), -1);
        d.due("road(-1, -1)", d.x.road(-1, -1), -1);
    }

    private static void noRoad(Check check) {
        Desk d = Desk.at(check, "000|0-1:1,1-2:99");
        d.due("road(0, 2)", d.x.road(0, 2), -2);
        d.due("road(0, 0)", d.x.road(0, 0), -2);
        d.due("road(2, 2)", d.x.road(2, 2), -2);
    }

    private static void countryAndRoads(Check check) {
        Desk d = Desk.at(check, "000000000005|0-1:1,0-2:1,0-3:1,0-4:1,0-5:1,0-6:1,0-7:1,0-8:1,0-9:1,0-10:1,0-11:1");
        d.due("office(0, 0)", d.x.office(0, 0), 0);
        d.due("office(11, 0)", d.x.office(11, 0), 5);
        d.due("office(0, 1): the most", d.x.office(0, 1), 11);
        d.due("office(11, 1)", d.x.office(11, 1), 1);
        d.net("00|");
        d.due("office(0, 1): none", d.x.office(0, 1), 0);
        d.due("office(1, 2): none", d.x.office(1, 2), 0);
    }

    private static void seenThere(Check check) {
        Desk d = Desk.at(check, LINE, 9999, 0);
        for (int m = 0; m < 20; m++) {
            d.starts("0-1-2", 0, 0, 1);
        }
        d.due("office(0, 2) of all twenty", d.x.office(0, 2), 1048575);
        d.stamps(19, 1);
        d.due("office(0, 2)", d.x.office(0, 2), 524287);
        d.due("office(1, 2)", d.x.office(1, 2), 524288);
        d.stamps(19, 2);
        d.due("office(1, 2)", d.x.office(1, 2), 0);
        d.due("office(2, 2) of one arrived", d.x.office(2, 2), 0);
        d.x.hours(29);
        d.due("its state", d.x.movement(0, 3), 3);
        d.due("office(0, 2) of those sought", d.x.office(0, 2), 524287);
        d.x.proves(0);
        d.due("office(0, 2), one is closed", d.x.office(0, 2), 524286);
        d.x.hours(71);
        d.due("office(0, 2) of those owed", d.x.office(0, 2), 0);
    }

    private static void anotherWhat(Check check) {
        TransitSeals x = new TransitSeals();
        for (int what : new int[] {-1, 3, Integer.MIN_VALUE, Integer.MAX_VALUE}) {
            check.due("office(0, " + what + ")", x.office(0, what), -1);
        }
        check.due("office(0, 2)", x.office(0, 2), 0);
    }

    private static void fewestHours(Check check) {
        Desk d = Desk.at(check, LINE);
        d.due("way(0, 0)", d.x.way(0, 0), 0, "0");
        d.due("way(11, 11)", d.x.way(11, 11), 0, "11");
        d.due("way(0, 11): a full row", d.x.way(0, 11), 11, "0 1 2 3 4 5 6 7 8 9 10 11");
        d.net("000|0-2:99,0-1:49,1-2:49");
        d.due("way(0, 2): one hour fewer", d.x.way(0, 2), 98, "0 1 2");
        d.net("000|0-1:4,2-0:5");
        d.due("way(1, 2) by the first office", d.x.way(1, 2), 9, "1 0 2");
        d.net("000|0-2:4,2-1:5");
        d.due("way(1, 0) by the last office", d.x.way(1, 0), 9, "1 2 0");
        d.net("000000000000|0-1:99,1-2:99,2-3:99,3-4:99,4-5:99,5-6:99,6-7:99,7-8:99,8-9:99,9-10:99,10-11:99");
        d.due("way(11, 0): the most hours", d.x.way(11, 0), 1089, "11 10 9 8 7 6 5 4 3 2 1 0");
    }

    private static void firstOfLikeWays(Check check) {
        Desk d = Desk.at(check, "0000|0-3:2,0-1:1,1-3:1,0-2:1,2-3:1");
        d.due("way(0, 3)", d.x.way(0, 3), 2, "0 1 3");
        d.due("way(3, 0): straight", d.x.way(3, 0), 2, "3 0");
        d.net("00000|0-1:2,1-4:2,0-2:1,2-3:1,3-4:2");
        d.due("way(0, 4): the row, not the number of offices", d.x.way(0, 4), 4, "0 1 4");
        d.due("way(4, 0)", d.x.way(4, 0), 4, "4 1 0");
        d.net("00000|0-1:1,1-3:1,3-4:1,1-2:1,2-4:1,0-4:3");
        d.due("way(0, 4): alike up to the second office", d.x.way(0, 4), 3, "0 1 2 4");
    }

    private static void noWay(Check check) {
        Desk d = Desk.at(check, "0000|0-1:1,2-3:1");
        d.due("way(0, 1)", d.x.way(0, 1), 1, "0 1");
        d.due("way(0, 2)", d.x.way(0, 2), -2, "0 1");
        d.due("way(3, 1)", d.x.way(3, 1), -2, "0 1");
        d.net("00|");
        d.due("way(0, 1) where there are no roads", d.x.way(0, 1), -2, "");
        d.due("way(1, 1) where there are no roads", d.x.way(1, 1), 0, "1");
    }

    private static void twoToEightOffices(Check check) {
        Desk d = Desk.at(check, LINE);
        d.due("routes(0, 1): 2 offices", d.x.routes(0, 1), 1, "1 1");
        d.due("routes(11, 4): 8 offices", d.x.routes(11, 4), 1, "7 7");
        d.due("routes(11, 3): 9 offices", d.x.routes(11, 3), -2, "7 7");
        d.net(roads(8, 28));
        d.due("routes(0, 7) by all roads", d.x.routes(0, 7), 1957, "1 7");
        d.net(roads(9, 8));
        d.due("routes(1, 8) by office 0 alone", d.x.routes(1, 8), 1, "2 2");
    }

    private static void leastAndGreatestSpan(Check check) {
        Desk d = Desk.at(check, "00000000|0-1:99,1-2:99,2-3:99,3-4:99,4-5:99,5-6:99,6-7:99,0-7:1");
        d.due("routes(0, 7)", d.x.routes(0, 7), 2, "1 693");
        d.due("routes(0, 6)", d.x.routes(0, 6), 2, "100 594");
        d.net("000|0-1:3,1-2:4");
        d.due("routes(0, 2): both are one", d.x.routes(0, 2), 1, "7 7");
    }

    private static void routesToItself(Check check) {
        Desk d = Desk.at(check, "000|0-1:3,1-2:4,0-2:1");
        d.due("routes(1, 1)", d.x.routes(1, 1), -1, "");
        d.due("routes(3, 3)", d.x.routes(3, 3), -1, "");
        d.due("routes(0, 3)", d.x.routes(0, 3), -1, "");
        d.due("routes(-1, 0)", d.x.routes(-1, 0), -1, "");
    }

    private static void noRoutes(Check check) {
        Desk d = Desk.at(check, "000|0-1:3");
        d.due("routes(0, 2)", d.x.routes(0, 2), -2, "");
        d.net(LINE);
        d.due("routes(0, 8), though there is a way", d.x.routes(0, 8), -2, "");
        d.due("way(0, 8)", d.x.way(0, 8), 8);
    }

    private static void gates(Check check) {
        Desk d = Desk.at(check, LINE);
        d.due("gates(4, 11): the greatest bits", d.x.gates(4, 11), 2016, "6");
        d.due("gates(0, 1): none between", d.x.gates(0, 1), 0, "0");
        d.net("000|0-1:1,2-0:1");
        d.due("gates(1, 2): the first office", d.x.gates(1, 2), 1, "1");
        d.net("000|0-2:1,1-2:1");
        d.due("gates(1, 0): the last office", d.x.gates(1, 0), 4, "1");
        // Round by 2 to 9 there are 10 offices, so all routes pass 1.
        d.net("00000000000|0-1:9,1-10:9,0-2:1,2-3:1,3-4:1,4-5:1,5-6:1,6-7:1,7-8:1,8-9:1,9-10:1");
        d.due("gates(0, 10)", d.x.gates(0, 10), 2, "1");
        // Round by 2 to 7 there are 8 offices: a route.
        d.net("000000000|0-1:9,1-8:9,0-2:1,2-3:1,3-4:1,4-5:1,5-6:1,6-7:1,7-8:1");
        d.due("gates(0, 8)", d.x.gates(0, 8), 0, "0");
        d.due("routes(0, 8)", d.x.routes(0, 8), 2, "7 18");
    }

    private static void howManyGates(Check check) {
        Desk d = Desk.at(check, LINE);
        d.due("gates(0, 7): the most", d.x.gates(0, 7), 126, "6");
        d.due("gates(0, 2)", d.x.gates(0, 2), 2, "1");
        d.net("000|0-1:1,1-2:1,0-2:1");
        d.due("gates(0, 2): none", d.x.gates(0, 2), 0, "0");
    }

    private static void noGates(Check check) {
        Desk d = Desk.at(check, LINE);
        d.due("gates(5, 5)", d.x.gates(5, 5), -1, "");
        d.due("gates(0, 12)", d.x.gates(0, 12), -1, "");
        d.due("gates(-1, 0)", d.x.gates(-1, 0), -1, "");
        d.due("gates(0, 8), though there is a way", d.x.gates(0, 8), -2, "");
        d.net("000|0-1:3");
        d.due("gates(0, 2)", d.x.gates(0, 2), -2, "");
    }

    // ---- the net as it is written

    private static void writtenSigns(Check check) {
        Desk d = new Desk(check);
        check.due("a new object's net", d.written(), "00|");
        d.net("012345012345|11-2:30,10-9:4,2-10:7,3-2:99,1-0:1|100,20,3");
        check.due("written", d.written(), "012345012345|0-1:1,2-3:99,2-10:7,2-11:30,9-10:4|100,20,3");
        d.net("00||9");
        check.due("written without roads", d.written(), "00||9");
        d.net("00|1-0:99|1,9,10,99,100,999");
        check.due("written with the least and the greatest of as many digits", d.written(), "00|0-1:99|1,9,10,99,100,999");
        d.net("00|1-0:10");
        check.due("written without goods", d.written(), "00|0-1:10");
        d.net("05|");
        check.due("written without both", d.written(), "05|");
    }

    private static void howManyWritten(Check check) {
        Desk d = new Desk(check);
        d.due("written(-1) of a new object", d.x.written(TransitSeals.NONE), 3);
        d.net(roads(9, 31) + "|1,22");
        d.due("written(-1) of the longest net", d.x.written(TransitSeals.NONE), 200);
        d.due("written(199)", d.x.written(199), '2');
        d.due("written(200)", d.x.written(200), -1);
    }

    private static void noSuchSign(Check check) {
        TransitSeals x = new TransitSeals();
        check.due("written(0)", x.written(0), '0');
        check.due("written(2)", x.written(2), '|');
        for (int i : new int[] {3, 4, 200, Integer.MAX_VALUE, -2, Integer.MIN_VALUE}) {
            check.due("written(" + i + ")", x.written(i), -1);
        }
    }
}
