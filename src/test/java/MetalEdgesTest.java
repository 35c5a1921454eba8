/** The boundaries of promises 1 to 7, sentence by sentence. */
final class MetalEdgesTest {
    /** A melt of 10000 pounds with the alloy 200; nothing burns. */
    private static final String PLAIN = "buy 0 8000; charge 0 8000; buy 1 2000; charge 1 2000; set 0 0; set 1 0";
    private static final String FULL_OF_COPPER = "10 x buy 0 100000";
    /** Of 5 pounds each: 4 of copper and 1 of tin; all are sprues. */
    private static final String TWELVE_LOTS = PLAIN + "; 12 x pour 0 100";

    private MetalEdgesTest() {
    }

    public static void main(String[] args) {
        promise1();
        promise2();
        promise3();
        promise4Index();
        promise4Limit();
        promise4Burn();
        promise5();
        promise5TwelveLots();
        promise6();
        promise6Burn();
        promise7();
        promise7EachRange();
        Due.end();
    }

    private static void promise1() {
        Edge.edge("1: without metal",
                "account 0 0 = 0; account 0 1 = 0; account 0 2 = 0; account 0 3 = 0; account 0 6 = 0",
                "account 1 0 = 0; account 1 1 = 0; account 1 2 = 0; account 1 3 = 0; account 1 6 = 0");
        Edge.edge("1: the melt is at first without weight",
                "melt 0 = 0; melt 1 = 0; melt 2 = 0; melt 3 = 0; melt 4 = 0; melt 5 = 0");
        Edge.edge("1: without scrap", "count 0 = 0; lot 0 0 = -1; scrap 0 = -1");
        Edge.edge("1: without bells",
                "count 1 = 0; count 2 = 0; count 3 = 0; count 4 = 0; account 0 4 = 0; account 1 4 = 0",
                "account 0 5 = 0; account 1 5 = 0; bell 0 2 = -1; tune 0 1 = -1; smash 0 = -1; wagons 0 = 0",
                "wagons 1 = -1");
        Edge.edge("1: without orders",
                "count 5 = 0; count 6 = 0; count 7 = 0; orderOf 0 0 = -1; cancel 0 = -1; pourFor 0 = -1",
                "send 0 0 = -1; tuneFor 0 0 = -1");
        Edge.edge("1: the first values of the settings",
                "count 20 = 5; count 21 = 20; count 22 = 180; count 23 = 260; count 24 = 50; count 25 = 6",
                "count 26 = 2000");
        Edge.edge("1: without a history", "count 8 = 0; undo = -2");
        Edge.edge("1: the text is initially empty",
                "count 9 = 0; clearText = 0; fault 0 = 0; fault 1 = 4; frame 0 = -2");
        Edge.edge("1: it is used for 512 calls", "511 x buy 0 1; buy 0 1 = 512");
        Edge.edge("1: its text is typed and emptied in 512 calls",
                "60 x type 40; clearText = 60; 60 x type 40; clearText = 60; 60 x type 40; clearText = 60; 60 x type 40",
                "clearText = 60; 60 x type 40; clearText = 60; 60 x type 40; clearText = 60; 60 x type 40; clearText = 60",
                "60 x type 40; clearText = 60; 22 x type 40; type 40 = 23; clearText = 23");
        BellFoundry used = Foundries.withMelt(800, 200);
        used.pour(0, 100);
        used.order(0, 1, 0);
        used.type('0');
        Edge.edge("1: a new one has nothing of another one",
                "count 0 = 0; count 1 = 0; count 5 = 0; count 8 = 0; count 9 = 0; melt 2 = 0");
        Due.due("1: nor has the other one of it", used.count(1), 1);
    }

    private static void promise2() {
        Edge.edge("2: metal: 0 or 1",
                "buy -1 5 = -1; buy 0 5 = 5; buy 1 6 = 6; buy 2 5 = -1; buy least 5 = -1; buy greatest 5 = -1");
        Edge.edge("2: pounds: 1 to 100000, of copper",
                "buy 0 0 = -1; buy 0 1 = 1; buy 0 100000 = 100001; buy 0 100001 = -1; buy 0 -1 = -1; buy 0 least = -1",
                "buy 0 greatest = -1");
        Edge.edge("2: pounds: 1 to 100000, of tin",
                "buy 1 0 = -1; buy 1 1 = 1; buy 1 100000 = 100001; buy 1 100001 = -1; buy 1 -1 = -1; buy 1 least = -1",
                "buy 1 greatest = -1");
        Edge.edge("2: LIMIT_REACHED if it would be more than 1000000, of copper",
                "9 x buy 0 100000; buy 0 99999 = 999999; buy 0 2 = -3; buy 0 100000 = -3; buy 0 1 = 1000000",
                "buy 0 1 = -3; buy 0 100000 = -3");
        Edge.edge("2: LIMIT_REACHED if it would be more than 1000000, of tin",
                "9 x buy 1 100000; buy 1 99999 = 999999; buy 1 2 = -3; buy 1 100000 = -3; buy 1 1 = 1000000",
                "buy 1 1 = -3; buy 1 100000 = -3");
        Edge.edge("2: the stock at its limit by whole purchases", FULL_OF_COPPER,
                "account 0 1 = 1000000; buy 0 1 = -3");
        Edge.edge("2: each metal has a stock", FULL_OF_COPPER + "; buy 1 100000 = 100000; buy 0 1 = -3");
        Edge.edge("2: the limit is that of the stock, not of what was bought", FULL_OF_COPPER
                + "; buy 0 1 = -3; charge 0 2; buy 0 3 = -3; buy 0 2 = 1000000; account 0 0 = 1000002; buy 0 1 = -3");
        Edge.edge("2: INVALID_ARGUMENT rather than LIMIT_REACHED", FULL_OF_COPPER,
                "buy 0 0 = -1; buy 0 100001 = -1; buy 0 greatest = -1; buy 2 1 = -1; buy -1 100000 = -1");
    }

    private static void promise3() {
        Edge.edge("3: metal: 0 or 1",
                "buy 0 5; buy 1 5; charge -1 1 = -1; charge 2 1 = -1; charge least 1 = -1; charge greatest 1 = -1",
                "charge 0 1 = 1; charge 1 1 = 2");
        Edge.edge("3: pounds: 1 to 20000, of copper",
                "buy 0 100000; charge 0 0 = -1; charge 0 -1 = -1; charge 0 least = -1",
                "charge 0 20001 = -1; charge 0 greatest = -1; charge 0 1 = 1; undo; charge 0 20000 = 20000");
        Edge.edge("3: pounds: 1 to 20000, of tin",
                "buy 1 100000; charge 1 0 = -1; charge 1 -1 = -1; charge 1 least = -1",
                "charge 1 20001 = -1; charge 1 greatest = -1; charge 1 1 = 1; undo; charge 1 20000 = 20000");
        Edge.edge("3: NOT_POSSIBLE if the stock of it is less, of copper",
                "charge 0 1 = -2; buy 1 50; charge 0 1 = -2; buy 0 7; charge 0 8 = -2; charge 0 7 = 7",
                "account 0 1 = 0; charge 0 1 = -2");
        Edge.edge("3: NOT_POSSIBLE if the stock of it is less, of tin",
                "charge 1 1 = -2; buy 0 50; charge 1 1 = -2; buy 1 7; charge 1 8 = -2; charge 1 7 = 7",
                "account 1 1 = 0; charge 1 1 = -2");
        Edge.edge("3: LIMIT_REACHED if the melt would be heavier than 20000",
                "buy 0 30000; buy 1 30000; charge 0 19999; charge 1 2 = -3",
                "charge 0 2 = -3; charge 1 20000 = -3; charge 1 1 = 20000; charge 0 1 = -3; charge 1 1 = -3",
                "charge 0 10001 = -3");
        Edge.edge("3: LIMIT_REACHED goes by the weight of both metals",
                "buy 0 30000; buy 1 30000; charge 1 12000; charge 0 8001 = -3",
                "charge 0 8000 = 20000; charge 1 1 = -3");
        Edge.edge("3: INVALID_ARGUMENT rather than NOT_POSSIBLE",
                "charge 0 0 = -1; charge 0 20001 = -1; charge 2 1 = -1; charge -1 1 = -1");
        Edge.edge("3: INVALID_ARGUMENT rather than LIMIT_REACHED",
                "buy 0 50000; charge 0 20000; charge 0 20001 = -1; charge 0 0 = -1",
                "charge 2 1 = -1; charge 0 20000 = -3");
        Edge.edge("3: NOT_POSSIBLE rather than LIMIT_REACHED",
                "buy 0 20000; charge 0 20000; buy 1 3; charge 0 1 = -2; charge 1 4 = -2",
                "charge 1 20000 = -2; charge 1 3 = -3");
    }

    private static void promise4Index() {
        Edge.edge("4: there is no lot",
                "scrap 0 = -1; scrap -1 = -1; scrap 1 = -1; scrap 11 = -1; scrap 12 = -1; scrap least = -1",
                "scrap greatest = -1");
        Edge.edge("4: index: 0 for the oldest one", PLAIN,
                "pour 0 1000; pour 0 200; melt 2 = 8740; scrap -1 = -1; scrap 2 = -1",
                "scrap 11 = -1; scrap 12 = -1; scrap least = -1; scrap greatest = -1; scrap 0 = 8790; undo",
                "scrap 1 = 8750", "scrap 1 = -1; scrap 0 = 8800; scrap 0 = -1");
        Edge.edge("4: index: the last one of twelve", TWELVE_LOTS,
                "scrap 12 = -1; scrap 11 = 8745; count 0 = 11; scrap 11 = -1");
        Edge.edge("4: index: the first one of twelve", TWELVE_LOTS,
                "tune 3 10; lot 11 2 = 15; scrap 0 = 8745; count 0 = 11", "lot 9 2 = 5; lot 10 2 = 15; lot 11 2 = -1");
        Edge.edge("4: the last lot is charged", PLAIN,
                "pour 0 100; scrap 0 = 9900; count 0 = 0; account 0 3 = 0; account 1 3 = 0; lot 0 2 = -1");
    }

    private static void promise4Limit() {
        Edge.edge("4: LIMIT_REACHED if the melt would be heavier than 20000", PLAIN,
                "pour 0 1000; buy 0 20000; charge 0 11000 = 19950",
                "charge 0 1 = 19951; scrap 0 = -3; undo; scrap 0 = 20000");
        // The shavings of 100 pounds would lose 4 pounds of copper and 2 of tin.
        Edge.edge("4: without any burn", PLAIN,
                "pour 0 1000; tune 0 100; set 0 50; set 1 100; buy 0 20000; charge 0 10950 = 19900",
                "charge 0 1 = 19901; scrap 1 = -3; undo; scrap 1 = 19994");
        Edge.edge("4: INVALID_ARGUMENT rather than LIMIT_REACHED", PLAIN,
                "pour 0 1000; buy 0 20000; charge 0 11050 = 20000",
                "scrap 0 = -3; scrap 1 = -1; scrap -1 = -1; scrap greatest = -1");
    }

    private static void promise4Burn() {
        // A pound of tin; then a pound of each.
        String shavings = PLAIN + "; pour 0 1000; tune 0 1; tune 0 2; lot 1 0 = 0; lot 1 1 = 1; lot 2 0 = 1; lot 2 1 = 1";
        Edge.edge("4: what burns is rounded up", shavings,
                "set 0 1; set 1 1; scrap 2 = 8950; account 0 6 = 1; account 1 6 = 1");
        Edge.edge("4: of no copper none burns", shavings,
                "set 0 50; set 1 100; scrap 1 = 8950; account 0 6 = 0; account 1 6 = 1");
        Edge.edge("4: a burn of 0", shavings, "scrap 2 = 8952; scrap 1 = 8953; account 0 6 = 0; account 1 6 = 0");
        Edge.edge("4: a burn of 0 of copper alone", shavings,
                "set 1 1; scrap 2 = 8951; account 0 6 = 0; account 1 6 = 1");
        String thousand = PLAIN + "; set 4 0; pour 0 10000; tune 0 1000; lot 0 0 = 800; lot 0 1 = 200; melt 2 = 0";
        Edge.edge("4: what burns without a rest is not rounded", thousand,
                "set 0 5; set 1 20; scrap 0 = 992; account 0 6 = 4; account 1 6 = 4");
        Edge.edge("4: what burns with a rest is", thousand,
                "set 0 6; set 1 21; scrap 0 = 990; account 0 6 = 5; account 1 6 = 5");
        Edge.edge("4: a lot of shavings burns ahead of being mixed with the melt", PLAIN,
                "pour 0 1000; tune 0 50; set 0 10; set 1 25",
                "scrap 1 = 8998; melt 0 = 7199; melt 1 = 1799; account 0 6 = 1; account 1 6 = 1");
        Edge.edge("4: sprues and broken bells do not burn", PLAIN,
                "pour 0 1000; smash 0; set 0 50; set 1 100; scrap 0 = 9000",
                "scrap 0 = 10000; account 0 6 = 0; account 1 6 = 0");
        Edge.edge("4: shavings that were mixed with a sprue do not burn", TWELVE_LOTS,
                "tune 0 10; set 0 50; set 1 100; lot 11 4 = 0; scrap 11 = 8755; account 0 6 = 0; account 1 6 = 0");
        // Of 92 pounds of copper 4.6 are lost, of 23 pounds of tin 2.3.
        Edge.edge("4: a sprue and a bell that were mixed with shavings burn", PLAIN,
                "11 x pour 0 100; tune 0 10; pour 0 100; smash 1",
                "set 0 50; set 1 100; lot 11 4 = 1; lot 11 2 = 115; scrap 11 = 8847; account 0 6 = 5; account 1 6 = 3");
    }

    private static void promise5() {
        Edge.edge("5: there is no lot", "lot 0 0 = -1; lot -1 0 = -1; lot 0 4 = -1; lot 11 0 = -1; lot 12 0 = -1");
        Edge.edge("5: index", PLAIN,
                "pour 0 1000; lot -1 2 = -1; lot 0 2 = 50; lot 1 2 = -1; lot 11 2 = -1; lot 12 2 = -1",
                "lot least 2 = -1; lot greatest 2 = -1");
        Edge.edge("5: what: 0 to 4", PLAIN,
                "pour 0 1000; lot 0 -1 = -1; lot 0 0 = 40; lot 0 1 = 10; lot 0 2 = 50; lot 0 3 = 200",
                "lot 0 4 = 0; lot 0 5 = -1; lot 0 least = -1; lot 0 greatest = -1");
        Edge.edge("5: both are out of range", "lot 0 5 = -1; lot -1 -1 = -1");
        Edge.edge("5: index: twelve lots", TWELVE_LOTS, "lot 11 2 = 5; lot 12 2 = -1; lot 12 4 = -1");
        Edge.edge("5: a kind for each that comes", PLAIN,
                "pour 0 100; tune 0 5; smash 0; lot 0 4 = 0; lot 1 4 = 1; lot 2 4 = 2; lot 3 4 = -1",
                "lot 0 2 = 5; lot 1 2 = 5; lot 2 2 = 95");
        Edge.edge("5: the alloy of tin alone",
                "buy 1 30; charge 1 30; set 1 0; pour 0 10; lot 0 0 = 0; lot 0 1 = 1; lot 0 3 = 1000");
        Edge.edge("5: the alloy of copper alone",
                "buy 0 30; charge 0 30; set 0 0; pour 0 10; lot 0 0 = 1; lot 0 1 = 0; lot 0 3 = 0");
        Edge.edge("5: a lot that would have no weight does not come", PLAIN,
                "set 4 0; pour 0 1000; count 0 = 0; lot 0 2 = -1; melt 2 = 9000");
        Edge.edge("5: a lot of a pound comes", PLAIN + "; set 4 1; pour 0 1; count 0 = 1; lot 0 2 = 1; melt 2 = 9998");
    }

    private static void promise5TwelveLots() {
        Edge.edge("5: at most 12: the twelfth is one of its own", PLAIN,
                "11 x pour 0 100; count 0 = 11; pour 0 200; count 0 = 12", "lot 11 2 = 10; lot 10 2 = 5");
        Edge.edge("5: a sprue when there are 12 is mixed with the latest one", TWELVE_LOTS,
                "smash 0; lot 11 2 = 105; pour 0 200; count 0 = 12; lot 11 2 = 115; lot 11 0 = 92; lot 11 1 = 23",
                "lot 11 4 = 0; lot 10 2 = 5; lot 0 2 = 5");
        Edge.edge("5: shavings when there are 12 are mixed with the latest one", TWELVE_LOTS,
                "tune 0 10; count 0 = 12; lot 11 2 = 15; lot 11 4 = 0; lot 10 2 = 5; lot 0 2 = 5");
        Edge.edge("5: a bell when there are 12 is mixed with the latest one", TWELVE_LOTS,
                "smash 0; count 0 = 12; lot 11 2 = 105; lot 11 4 = 0; lot 10 2 = 5; lot 0 2 = 5");
        Edge.edge("5: the kind of shavings remains", PLAIN,
                "11 x pour 0 100; tune 0 10; pour 0 100; lot 11 4 = 1; lot 11 2 = 15; smash 0; lot 11 4 = 1");
        Edge.edge("5: the kind of a broken bell remains", PLAIN,
                "11 x pour 0 100; smash 0; pour 0 100; lot 11 4 = 2; lot 11 2 = 105",
                "tune 1 10; lot 11 4 = 2; lot 11 2 = 115");
        Edge.edge("5: when there are 12, one without weight changes none", TWELVE_LOTS,
                "smash 0; set 4 0; lot 11 2 = 105; pour 0 100; count 0 = 12; lot 11 2 = 105");
        Edge.edge("5: when there are 11 again, the next one is one of its own", TWELVE_LOTS,
                "scrap 4; tune 0 10; count 0 = 12; lot 11 2 = 10; lot 11 4 = 1; lot 10 2 = 5; tune 1 10",
                "lot 11 2 = 20");
    }

    private static void promise6() {
        Edge.edge("6: what: 0 to 5",
                "melt -1 = -1; melt 6 = -1; melt least = -1; melt greatest = -1; melt 0 = 0; melt 5 = 0");
        Edge.edge("6: what: 0 to 5, with a melt", PLAIN,
                "set 0 10; melt -1 = -1; melt 0 = 8000; melt 1 = 2000; melt 2 = 10000; melt 3 = 200",
                "melt 4 = 9920; melt 5 = 201; melt 6 = -1");
        Edge.edge("6: its alloy is 0 without weight",
                "melt 3 = 0; melt 5 = 0; buy 0 5; charge 0 5; set 0 0; set 4 0; pour 0 5; melt 2 = 0; melt 3 = 0",
                "melt 5 = 0");
        Edge.edge("6: its alloy is rounded down",
                "buy 1 1; charge 1 1; melt 3 = 1000; buy 0 2000; charge 0 1; melt 3 = 500; charge 0 1; melt 3 = 333",
                "charge 0 997; melt 2 = 1000; melt 3 = 1; charge 0 1; melt 3 = 0");
        Edge.edge("6: the heaviest melt",
                "buy 0 20000; buy 1 20000; charge 1 20000; melt 2 = 20000; melt 3 = 1000; undo; charge 0 20000",
                "melt 2 = 20000; melt 3 = 0");
    }

    private static void promise6Burn() {
        Edge.edge("6: the burn of copper is rounded up",
                "buy 0 201; charge 0 1; melt 4 = 0; charge 0 199; melt 4 = 199; charge 0 1; melt 4 = 199");
        Edge.edge("6: the burn of tin is rounded up",
                "buy 1 51; charge 1 1; melt 4 = 0; charge 1 49; melt 4 = 49; charge 1 1; melt 4 = 49");
        Edge.edge("6: as they would be if all of it burned",
                "buy 0 1; buy 1 1; charge 0 1; charge 1 1; melt 2 = 2; melt 3 = 500; melt 4 = 0; melt 5 = 0");
        Edge.edge("6: as they would be without a burn",
                "set 0 0; set 1 0; buy 0 3; buy 1 1; charge 0 3; charge 1 1; melt 4 = 4; melt 5 = 250");
        Edge.edge("6: the greatest burns of the heaviest melts",
                "set 0 50; set 1 100; buy 0 20000; buy 1 20000; charge 0 20000; melt 4 = 19000; undo",
                "charge 1 20000; melt 4 = 18000; melt 5 = 1000");
        Edge.edge("6: the least burns",
                "set 0 1; set 1 1; buy 0 1001; buy 1 1001; charge 0 1000; charge 1 1000; melt 4 = 1998; charge 0 1",
                "melt 4 = 1998", "charge 1 1; melt 4 = 1998");
        Edge.edge("6: they burn once, and asking burns nothing", PLAIN,
                "set 0 50; melt 4 = 9600; melt 4 = 9600; melt 2 = 10000");
    }

    private static void promise7() {
        Edge.edge("7: what: 0 to 6",
                "set -1 5 = -1; set 7 5 = -1; set least 5 = -1; set greatest 5 = -1; set 0 5 = 5; set 6 5 = 2000");
        Edge.edge("7: what: 0 to 6, and a value out of each range",
                "set -1 -1 = -1; set 7 20001 = -1; set 0 greatest = -1; set greatest greatest = -1");
        Edge.edge("7: returns what it was, also if it stays so",
                "set 2 180 = 180; count 8 = 1; set 2 181 = 180; set 2 181 = 181; count 8 = 3; count 22 = 181");
        Edge.edge("7: returns 0 if it was 0, which is no error", "set 0 0 = 5; set 0 0 = 0; set 0 1 = 0; count 8 = 3");
        Edge.edge("7: the least alloy may be above the most",
                "set 2 1000 = 180; set 3 0 = 260; set 2 0 = 1000; set 3 1000 = 0");
    }

    private static void promise7EachRange() {
        int[][] ranges = {{0, 50, 5}, {0, 100, 20}, {0, 1000, 180}, {0, 1000, 260}, {0, 300, 50}, {1, 50, 6}, {1, 20000, 2000}};
        for (int what = 0; what < ranges.length; what++) {
            int least = ranges[what][0];
            int most = ranges[what][1];
            Edge.edge("7: the range of the setting " + what, set(what, least - 1, -1), set(what, most + 1, -1),
                    "set " + what + " least = -1; set " + what + " greatest = -1; count 8 = 0",
                    set(what, least, ranges[what][2]), set(what, most, least), set(what, most, most),
                    "count " + (20 + what) + " = " + most + "; count 8 = 3");
        }
    }

    private static String set(int what, int value, int due) {
        return "set " + what + " " + value + " = " + due;
    }
}
