/** Promises 7, 8 and 9: ways, routes, gates. */
final class WaysTest {
    private static final String LINE = "000000000000|0-1:1,1-2:1,2-3:1,3-4:1,4-5:1,5-6:1,6-7:1,7-8:1,8-9:1,9-10:1,10-11:1";

    private WaysTest() {
    }

    public static void main(String[] args) {
        Check check = new Check("WaysTest");
        ways(check);
        waysAlike(check);
        routes(check);
        longRoutes(check);
        gates(check);
        gatesByLength(check);
        check.close();
    }

    private static void ways(Check check) {
        Desk d = Desk.at(check, Desk.NET);
        d.due("way(0, 4)", d.x.way(0, 4), 22, "0 1 2 3 4");
        d.due("way(4, 0)", d.x.way(4, 0), 22, "4 3 2 1 0");
        d.due("way(0, 2)", d.x.way(0, 2), 12, "0 1 2");
        d.due("way(3, 3)", d.x.way(3, 3), 0, "3");
        d.due("way(0, 5)", d.x.way(0, 5), -1);
        d.due("way(5, 0)", d.x.way(5, 0), -1);
        d.due("way(-1, 0)", d.x.way(-1, 0), -1);
        d.due("way(7, 7)", d.x.way(7, 7), -1);
        d.net("000|0-1:4");
        d.due("way(0, 2)", d.x.way(0, 2), -2, "");
        d.due("way(2, 2)", d.x.way(2, 2), 0, "2");
        d.net(LINE);
        d.due("way(0, 11)", d.x.way(0, 11), 11, "0 1 2 3 4 5 6 7 8 9 10 11");
        d.due("way(11, 0)", d.x.way(11, 0), 11, "11 10 9 8 7 6 5 4 3 2 1 0");
    }

    private static void waysAlike(Check check) {
        Desk d = Desk.at(check, "00000|0-3:1,3-4:3,0-1:2,1-4:2,0-4:4,1-2:1,2-4:1");
        d.due("way(0, 4) of four like ways", d.x.way(0, 4), 4, "0 1 2 4");
        d.due("way(4, 0)", d.x.way(4, 0), 4, "4 0");
        d.net("00000|0-3:1,3-4:3,0-1:2,1-4:2");
        d.due("way(0, 4)", d.x.way(0, 4), 4, "0 1 4");
        d.due("way(4, 0)", d.x.way(4, 0), 4, "4 1 0");
        d.net("0000|0-2:5,2-3:1,0-1:1,1-2:4,1-3:6");
        d.due("way(0, 3)", d.x.way(0, 3), 6, "0 1 2 3");
    }

    private static void routes(Check check) {
        Desk d = Desk.at(check, Desk.NET);
        // 0-1-2-3-4 22, 0-1-3-4 23, 0-2-3-4 25, 0-2-1-3-4 40
        d.due("routes(0, 4)", d.x.routes(0, 4), 4, "22 40");
        d.due("routes(4, 0)", d.x.routes(4, 0), 4, "22 40");
        d.due("routes(4, 3)", d.x.routes(4, 3), 1, "6 6");
        d.due("routes(0, 0)", d.x.routes(0, 0), -1);
        d.due("routes(0, 5)", d.x.routes(0, 5), -1);
        d.due("routes(-1, 0)", d.x.routes(-1, 0), -1);
        d.due("routes(9, 9)", d.x.routes(9, 9), -1, "6 6");
        d.net("000|0-1:4");
        d.due("routes(0, 2)", d.x.routes(0, 2), -2, "");
        d.due("routes(1, 0)", d.x.routes(1, 0), 1, "4 4");
    }

    private static void longRoutes(Check check) {
        Desk d = Desk.at(check, LINE);
        d.due("routes(0, 7): 8 offices", d.x.routes(0, 7), 1, "7 7");
        d.due("routes(0, 8): 9 offices", d.x.routes(0, 8), -2, "7 7");
        d.due("way(0, 8)", d.x.way(0, 8), 8);
        StringBuilder all = new StringBuilder("00000000|");
        for (int a = 0; a < 8; a++) {
            for (int b = a + 1; b < 8; b++) {
                all.append(a == 0 && b == 1 ? "" : ",").append(a).append('-').append(b).append(":1");
            }
        }
        d.net(all.toString());
        // 1 + 6 + 30 + 120 + 360 + 720 + 720: so many rows of none to six other offices.
        d.due("routes(3, 6) of all roads", d.x.routes(3, 6), 1957, "1 7");
        d.net("000000000|0-1:1,1-2:1,2-3:1,3-4:1,4-5:1,5-6:1,6-7:1,7-8:1,0-8:50");
        d.due("routes(0, 8) round the ring", d.x.routes(0, 8), 1, "50 50");
        d.due("routes(0, 7)", d.x.routes(0, 7), 2, "7 51");
    }

    private static void gates(Check check) {
        Desk d = Desk.at(check, Desk.NET);
        d.due("gates(0, 4)", d.x.gates(0, 4), 8, "1");
        d.due("gates(4, 0)", d.x.gates(4, 0), 8, "1");
        d.due("gates(0, 2)", d.x.gates(0, 2), 0, "0");
        d.due("gates(3, 4)", d.x.gates(3, 4), 0, "0");
        d.due("gates(0, 0)", d.x.gates(0, 0), -1);
        d.due("gates(0, 5)", d.x.gates(0, 5), -1);
        d.due("gates(-1, 0)", d.x.gates(-1, 0), -1, "0");
        d.net("00000|0-1:4,1-2:1,2-3:1");
        d.due("gates(0, 3)", d.x.gates(0, 3), 6, "2");
        d.due("gates(0, 4)", d.x.gates(0, 4), -2, "2");
        d.net("000|0-1:4,2-0:5");
        d.due("gates(1, 2) by office 0", d.x.gates(1, 2), 1, "1");
        d.due("way(1, 2) by office 0", d.x.way(1, 2), 9, "1 0 2");
    }

    private static void gatesByLength(Check check) {
        Desk d = Desk.at(check, LINE);
        d.due("gates(0, 7)", d.x.gates(0, 7), 126, "6");
        d.due("gates(0, 8)", d.x.gates(0, 8), -2, "6");
        // The way round without office 1 has 9 offices, which is no route.
        d.net("0000000000|0-1:9,1-8:9,0-2:1,2-3:1,3-4:1,4-5:1,5-6:1,6-7:1,7-9:1,9-8:1");
        d.due("way(0, 8)", d.x.way(0, 8), 8);
        d.due("gates(0, 8)", d.x.gates(0, 8), 2, "1");
        d.due("routes(0, 8)", d.x.routes(0, 8), 1, "18 18");
        d.due("gates(0, 9)", d.x.gates(0, 9), 0, "0");
    }
}
