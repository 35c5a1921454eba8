/** The boundaries of promises 8 to 11, sentence by sentence. */
final class BellsEdgesTest {
    /** A melt of 10000 pounds with the alloy 200; nothing burns. */
    private static final String PLAIN = "buy 0 8000; charge 0 8000; buy 1 2000; charge 1 2000; set 0 0; set 1 0";
    /** The same with 20000 pounds. */
    private static final String FULL = "buy 0 16000; charge 0 16000; buy 1 4000; charge 1 4000; set 0 0; set 1 0";
    private static final String NO_SPRUE = "set 4 0";
    private static final String TWELVE_BELLS = PLAIN + "; 12 x pour 0 100";

    private BellsEdgesTest() {
    }

    public static void main(String[] args) {
        promise8Arguments();
        promise8TooLight();
        promise8TwelveBells();
        promise8HundredBells();
        promise8ErrorsInTheirOrder();
        promise8Drawing();
        promise8Sprue();
        promise8Roots();
        promise8AlloyInPitch();
        promise8Cracks();
        promise9Arguments();
        promise9Weight();
        promise9States();
        promise9Pitch();
        promise9Cracks();
        promise10();
        promise11();
        promise11WhatIsNotFound();
        promise11States();
        Due.end();
    }

    private static void promise8Arguments() {
        Edge.edge("8: profile: 0 to 3", PLAIN,
                "pour -1 10 = -1; pour 4 10 = -1; pour least 10 = -1; pour greatest 10 = -1",
                "pour 0 10 = 0; pour 1 10 = 1; pour 2 10 = 2; pour 3 10 = 3; bell 0 4 = 0; bell 3 4 = 3");
        Edge.edge("8: pounds: 1 to 10000", FULL,
                "pour 0 0 = -1; pour 0 -1 = -1; pour 0 10001 = -1; pour 0 least = -1; pour 0 greatest = -1",
                "pour 0 10000 = 0; bell 0 2 = 10000; pour 0 1 = 1; bell 1 2 = 1");
    }

    private static void promise8TooLight() {
        Edge.edge("8: NOT_POSSIBLE without a melt",
                "pour 0 1 = -2; pour 0 10000 = -2; " + NO_SPRUE + "; pour 0 1 = -2");
        Edge.edge("8: NOT_POSSIBLE if the melt is too light for the bell",
                "buy 0 100; charge 0 100; set 0 0; " + NO_SPRUE,
                "pour 0 101 = -2; pour 0 10000 = -2; pour 0 100 = 0; melt 2 = 0; pour 0 1 = -2");
        // 9523 pounds need a sprue of 476.15.
        Edge.edge("8: NOT_POSSIBLE if it is too light for the bell and its sprue", PLAIN,
                "pour 0 9524 = -2; pour 0 10000 = -2; pour 0 9523 = 0; melt 2 = 0");
        Edge.edge("8: a sprue that is rounded up", "buy 0 21; charge 0 21; set 0 0",
                "pour 0 21 = -2; pour 0 20 = 0; melt 2 = 0; lot 0 2 = 1");
        Edge.edge("8: the greatest sprue", "buy 0 13; charge 0 13; set 0 0; set 4 300",
                "pour 0 11 = -2; pour 0 10 = 0; melt 2 = 0; lot 0 2 = 3");
        Edge.edge("8: the heaviest bell with its sprue",
                "buy 0 10500; charge 0 10499; set 0 0; pour 0 10000 = -2; charge 0 1; pour 0 10000 = 0; melt 2 = 0");
        // Of 800 and 200 pounds 796 and 196 are left; 944 pounds need a sprue of 47.2.
        Edge.edge("8: NOT_POSSIBLE if it is too light behind its burn",
                "buy 0 800; charge 0 800; buy 1 200; charge 1 200",
                "pour 0 945 = -2; account 0 6 = 0; pour 0 944 = 0; melt 2 = 0; account 0 6 = 4; account 1 6 = 4");
        Edge.edge("8: NOT_POSSIBLE if the melt would burn wholly",
                "buy 0 1; charge 0 1; buy 1 1; charge 1 1; " + NO_SPRUE,
                "pour 0 1 = -2; melt 2 = 2; set 0 0; pour 0 1 = 0");
    }

    private static void promise8TwelveBells() {
        Edge.edge("8: LIMIT_REACHED if 12 bells are neither sent nor smashed", PLAIN,
                "11 x pour 0 100; pour 0 100 = 11; pour 0 100 = -3; count 2 = 12");
        Edge.edge("8: one that is smashed leaves room for one", TWELVE_BELLS,
                "smash 4; pour 0 100 = 12; pour 0 100 = -3");
        Edge.edge("8: one that is sent leaves room for one", TWELVE_BELLS,
                "order 0 2000 500; send 4 0; pour 0 100 = 12; pour 0 100 = -3");
        Edge.edge("8: one that is cracked leaves none", TWELVE_BELLS, "tune 4 11; bell 4 8 = 1; pour 0 100 = -3");
        Edge.edge("8: twelve that are cracked are twelve",
                "buy 0 2000; charge 0 2000; 12 x pour 0 100; count 3 = 12; pour 0 100 = -3");
    }

    /** Pours and smashes bells, from one number to another. */
    private static String pourAndSmash(int from, int to) {
        StringBuilder calls = new StringBuilder();
        for (int bell = from; bell <= to; bell++) {
            calls.append("pour 0 10 = ").append(bell).append("; smash ").append(bell).append(" = 10;");
        }
        return calls.toString();
    }

    private static void promise8HundredBells() {
        Edge.edge("8: LIMIT_REACHED if 100 have been poured", PLAIN, pourAndSmash(0, 98),
                "pour 0 10 = 99; pour 0 10 = -3; count 1 = 100",
                "bell 99 2 = 10; bell 100 2 = -1; smash 99 = 10; pour 0 10 = -3; undo; undo; pour 0 20 = 99",
                "pour 0 10 = -3");
    }

    private static void promise8ErrorsInTheirOrder() {
        Edge.edge("8: INVALID_ARGUMENT rather than NOT_POSSIBLE",
                "pour 4 10 = -1; pour -1 10 = -1; pour 0 0 = -1; pour 0 10001 = -1");
        Edge.edge("8: INVALID_ARGUMENT rather than LIMIT_REACHED", TWELVE_BELLS,
                "pour 4 100 = -1; pour -1 100 = -1; pour 0 0 = -1; pour 0 10001 = -1");
        Edge.edge("8: NOT_POSSIBLE rather than LIMIT_REACHED of 12 bells", TWELVE_BELLS,
                "melt 2 = 8740; pour 0 8324 = -2; pour 0 8323 = -3");
        Edge.edge("8: NOT_POSSIBLE rather than LIMIT_REACHED of 100 bells", PLAIN, pourAndSmash(0, 99),
                "melt 2 = 8900; pour 0 8477 = -2; pour 0 8476 = -3");
    }

    private static void promise8Drawing() {
        String oneAndTwo = "buy 0 1; charge 0 1; buy 1 2; charge 1 2; set 0 0; set 1 0; " + NO_SPRUE;
        Edge.edge("8: to draw: the copper is rounded down, the rest is tin", oneAndTwo,
                "pour 0 1; bell 0 0 = 0; bell 0 1 = 1; pour 0 1; bell 1 0 = 0; bell 1 1 = 1; pour 0 1; bell 2 0 = 1",
                "bell 2 1 = 0");
        Edge.edge("8: to draw all of it", oneAndTwo, "pour 0 3; bell 0 0 = 1; bell 0 1 = 2; melt 0 = 0; melt 1 = 0");
        Edge.edge("8: to draw nothing from what is left", PLAIN, "set 4 0; pour 0 1000; melt 0 = 7200; melt 1 = 1800");
        Edge.edge("8: to draw nothing when nothing is left", PLAIN,
                "set 4 0; pour 0 10000; melt 0 = 0; melt 1 = 0; count 0 = 0");
        // Of 2 and 3 pounds 2 are drawn, 0.8 of copper; then from 2 and 1 one, 0.67 of copper.
        Edge.edge("8: the sprue is drawn from what is left",
                "buy 0 2; charge 0 2; buy 1 3; charge 1 3; set 0 0; set 1 0; pour 0 2",
                "bell 0 0 = 0; bell 0 1 = 2; lot 0 0 = 0; lot 0 1 = 1; melt 0 = 2; melt 1 = 0");
        // Burnt, 796 and 196 are left: 267.2 of copper in 333 pounds, then 13.6 in 17 of 659 pounds.
        Edge.edge("8: the melt burns ahead of it", "buy 0 801; charge 0 801; buy 1 201; charge 1 201; pour 3 333",
                "bell 0 0 = 267; bell 0 1 = 66",
                "lot 0 0 = 13; lot 0 1 = 4; melt 0 = 516; melt 1 = 126; account 0 6 = 5; account 1 6 = 5");
        Edge.edge("8: it burns once for each bell", PLAIN,
                "set 0 10; set 4 0; pour 0 20; account 0 6 = 80; pour 0 20; account 0 6 = 160; account 1 6 = 0");
    }

    private static void promise8Sprue() {
        Edge.edge("8: the sprue is rounded up", PLAIN,
                "pour 0 20; lot 0 2 = 1; pour 0 21; lot 1 2 = 2; pour 0 1; lot 2 2 = 1");
        Edge.edge("8: the least sprue", PLAIN,
                "set 4 1; pour 0 1; lot 0 2 = 1; pour 0 1000; lot 1 2 = 1; pour 0 1001; lot 2 2 = 2");
        Edge.edge("8: the greatest sprue of all", PLAIN,
                "set 4 300; pour 0 10; lot 0 2 = 3; pour 0 11; lot 1 2 = 4; pour 0 1000; lot 2 2 = 300");
        Edge.edge("8: no sprue is no lot", PLAIN + "; set 4 0; pour 0 1000; count 0 = 0; melt 2 = 9000");
    }

    private static void promise8Roots() {
        // Each line: a weight, and the pitch of a church bell of copper alone, 900000 through the root.
        int[][] pitches = {{1, 9000}, {2, 7200}, {7, 4712}, {8, 4500}, {9, 4326}, {26, 3040}, {27, 3000}, {28, 2970}, {124, 1807},
            {125, 1800}, {126, 1796}, {999, 900}, {1000, 900}, {1001, 900}, {1003, 900}, {1004, 899}, {7999, 450}, {8000, 450},
            {9999, 417}, {10000, 417}};
        for (int[] pitch : pitches) {
            Edge.edge("8: c is the greatest number whose cube is at most 1000000 times " + pitch[0],
                    "buy 0 20000; charge 0 20000; set 0 0", "pour 0 " + pitch[0] + "; bell 0 5 = " + pitch[1]);
        }
        // By the factor 1500 each root shows: 1500000 / 199 and / 200, / 999 and / 1000, / 2154.
        Edge.edge("8: the root of a cube", "buy 0 20000; charge 0 20000; set 0 0",
                "pour 2 8; bell 0 5 = 7500; pour 2 7; bell 1 5 = 7853",
                "pour 2 1000; bell 2 5 = 1500; pour 2 999; bell 3 5 = 1501; pour 2 10000; bell 4 5 = 696");
        Edge.edge("8: the factors",
                "buy 0 20000; charge 0 20000; set 0 0; pour 0 1; bell 0 5 = 9000; pour 1 1; bell 1 5 = 12000",
                "pour 2 1; bell 2 5 = 15000; pour 3 1; bell 3 5 = 11000");
    }

    private static void promise8AlloyInPitch() {
        int[][] alloys = {{0, 900}, {3, 900}, {4, 901}, {7, 901}, {8, 902}, {996, 1149}, {999, 1149}, {1000, 1150}};
        for (int[] alloy : alloys) {
            Edge.edge("8: two divisions, with the alloy " + alloy[0], meltOf(1000 - alloy[0], alloy[0]),
                    NO_SPRUE + "; pour 0 1000; bell 0 3 = " + alloy[0] + "; bell 0 5 = " + alloy[1]);
        }
        // 900000 / 999 is 900.9, and 3 / 4 more would make it 901.6.
        Edge.edge("8: what is left by two divisions does not add up", meltOf(996, 3), NO_SPRUE,
                "pour 0 999; bell 0 3 = 3; bell 0 5 = 900");
    }

    /** Nothing burns in it. */
    private static String meltOf(int copper, int tin) {
        return "set 0 0; set 1 0" + (copper > 0 ? "; buy 0 " + copper + "; charge 0 " + copper : "")
                + (tin > 0 ? "; buy 1 " + tin + "; charge 1 " + tin : "");
    }

    private static void promise8Cracks() {
        int[][] alloys = {{0, 1}, {179, 1}, {180, 0}, {181, 0}, {259, 0}, {260, 0}, {261, 1}, {1000, 1}};
        for (int[] alloy : alloys) {
            Edge.edge("8: cracked at once by the alloy " + alloy[0], meltOf(1000 - alloy[0], alloy[0]),
                    NO_SPRUE + "; pour 0 1000; bell 0 3 = " + alloy[0] + "; bell 0 8 = " + alloy[1]);
        }
        Edge.edge("8: not less than the least alloy of 0", meltOf(1000, 0), "set 2 0; pour 0 100; bell 0 8 = 0");
        Edge.edge("8: not greater than the most alloy of 1000", meltOf(0, 1000),
                "set 3 1000; pour 0 100; bell 0 8 = 0");
        Edge.edge("8: not less than the least alloy of 1000", meltOf(0, 1000),
                "set 2 1000; set 3 1000; pour 0 100; bell 0 8 = 0");
        Edge.edge("8: not greater than the most alloy of 0", meltOf(1000, 0),
                "set 2 0; set 3 0; pour 0 100; bell 0 8 = 0");
        Edge.edge("8: greater than the most alloy of 0", meltOf(999, 1), NO_SPRUE,
                "set 2 0; set 3 0; pour 0 1000; bell 0 3 = 1; bell 0 8 = 1");
        Edge.edge("8: less than the least alloy of 1000", meltOf(1, 999), NO_SPRUE,
                "set 2 1000; set 3 1000; pour 0 1000; bell 0 3 = 999; bell 0 8 = 1");
        Edge.edge("8: the least alloy above the most", PLAIN,
                "set 2 201; set 3 199; pour 0 100; bell 0 8 = 1; set 2 200; pour 0 100; bell 1 8 = 1",
                "set 3 200; pour 0 100; bell 2 8 = 0");
        Edge.edge("8: by the settings as they are then", PLAIN,
                "pour 0 100; set 2 201; bell 0 8 = 0; pour 0 100; bell 1 8 = 1; set 2 180; bell 1 8 = 1; bell 0 8 = 0");
        Edge.edge("8: a bell that cracks is poured all the same", meltOf(1000, 0),
                "pour 1 100 = 0; bell 0 2 = 100; bell 0 5 = 2586; lot 0 2 = 5; count 3 = 1");
    }

    private static void promise9Arguments() {
        Edge.edge("9: there is no bell", "tune 0 1 = -1; tune -1 1 = -1; tune 99 1 = -1; tune 100 1 = -1");
        Edge.edge("9: bell: number of the bell", PLAIN,
                "pour 0 1000; tune -1 1 = -1; tune 1 1 = -1; tune 99 1 = -1; tune 100 1 = -1; tune least 1 = -1",
                "tune greatest 1 = -1; tune 0 1 = 944; pour 0 1000; tune 1 1 = 944; tune 2 1 = -1");
        Edge.edge("9: pounds: 1 to 1000", FULL,
                "set 5 1; pour 0 10000; bell 0 5 = 467; tune 0 0 = -1; tune 0 -1 = -1; tune 0 1001 = -1",
                "tune 0 least = -1; tune 0 greatest = -1; tune 0 1 = 467; undo; tune 0 1000 = 367; bell 0 8 = 0",
                "bell 0 7 = 1000; bell 0 2 = 9000");
    }

    private static void promise9Weight() {
        Edge.edge("9: NOT_POSSIBLE if it is not heavier than this", PLAIN,
                "pour 0 100; tune 0 100 = -2; tune 0 101 = -2; tune 0 1000 = -2",
                "tune 0 99 = 1; bell 0 2 = 1; bell 0 7 = 99; lot 1 2 = 99");
        Edge.edge("9: NOT_POSSIBLE for a bell of a pound", PLAIN,
                "set 3 1000; pour 0 1; bell 0 8 = 0; tune 0 1 = -2; pour 0 2; tune 1 2 = -2; tune 1 1 = 4325");
        Edge.edge("9: by its weight then, not that with which it was poured", PLAIN,
                "pour 0 100; tune 0 10; tune 0 90 = -2; tune 0 89 = 1");
        Edge.edge("9: a bell of 1000 and one of 1001 pounds by 1000", PLAIN,
                "pour 0 1000; pour 0 1001; tune 0 1000 = -2; tune 1 1000 = 1; bell 1 2 = 1");
    }

    private static void promise9States() {
        Edge.edge("9: NOT_POSSIBLE if it is sent", PLAIN,
                "pour 0 100; order 0 2000 500; send 0 0; tune 0 1 = -2; tune 0 1000 = -2");
        Edge.edge("9: NOT_POSSIBLE if it is smashed", PLAIN + "; pour 0 100; smash 0; tune 0 1 = -2; tune 0 1000 = -2");
        Edge.edge("9: NOT_POSSIBLE if it is cracked by its alloy",
                "buy 0 200; charge 0 200; pour 0 100; bell 0 8 = 1; tune 0 1 = -2");
        Edge.edge("9: NOT_POSSIBLE if it is cracked by tuning", PLAIN,
                "pour 0 100; tune 0 11; bell 0 8 = 1; tune 0 1 = -2");
        Edge.edge("9: INVALID_ARGUMENT rather than NOT_POSSIBLE", PLAIN,
                "pour 0 100; smash 0; tune 0 0 = -1; tune 0 1001 = -1; pour 0 100",
                "tune 1 1001 = -1; tune 1 100 = -2; tune 2 100 = -1");
    }

    private static void promise9Pitch() {
        Edge.edge("9: its pitch is at least 1", PLAIN,
                "pour 0 1000; set 5 13; tune 0 72 = 14; undo; tune 0 73 = 1; undo; tune 0 74 = 1; bell 0 5 = 1");
        Edge.edge("9: its pitch would be 0", PLAIN,
                "pour 0 1000; set 5 50; tune 0 18 = 50; undo; tune 0 19 = 1; tune 0 1 = 1; bell 0 8 = 0");
        Edge.edge("9: its pitch would be far below 0", PLAIN, "pour 0 1001; set 5 50; tune 0 1000 = 1; bell 0 5 = 1");
        Edge.edge("9: the least and the greatest setting 5", PLAIN,
                "pour 0 1000; set 5 1; tune 0 1 = 949; undo; undo; set 5 50; tune 0 1 = 900");
        Edge.edge("9: by its weight ahead of this", PLAIN,
                "pour 0 1000; tune 0 100 = 350; undo; tune 0 50 = 650; tune 0 50 = 335");
        // 6000 / 1001 is 5.99, and 6000 / 1000 is 6.
        Edge.edge("9: what the pitch loses is rounded down", PLAIN + "; pour 0 1001; tune 0 1 = 945; tune 0 1 = 939");
        Edge.edge("9: the pitch of a great bell that loses a pound stays", FULL,
                "pour 0 10000; tune 0 1 = 467; set 5 1; tune 0 9 = 467; tune 0 10 = 466");
    }

    private static void promise9Cracks() {
        int[][] tenths = {{9, 1, 1}, {10, 1, 0}, {10, 2, 1}, {19, 1, 0}, {19, 2, 1}, {20, 2, 0}, {109, 10, 0},
            {109, 11, 1}, {110, 11, 0}, {1000, 100, 0}, {1000, 101, 1}};
        for (int[] tenth : tenths) {
            for (int profile : new int[] {0, 1, 3}) {
                Edge.edge("9: more than the tenth part, profile " + profile + ", " + tenth[1] + " of " + tenth[0],
                        PLAIN + "; pour " + profile + " " + tenth[0] + "; tune 0 " + tenth[1] + "; bell 0 8 = " + tenth[2]);
            }
        }
        int[][] twentieths = {{19, 1, 1}, {20, 1, 0}, {20, 2, 1}, {39, 1, 0}, {39, 2, 1}, {40, 2, 0}, {119, 5, 0},
            {119, 6, 1}, {120, 6, 0}, {1000, 50, 0}, {1000, 51, 1}};
        for (int[] twentieth : twentieths) {
            Edge.edge("9: more than the twentieth part, a hand bell, " + twentieth[1] + " of " + twentieth[0],
                    PLAIN + "; pour 2 " + twentieth[0] + "; tune 0 " + twentieth[1] + "; bell 0 8 = " + twentieth[2]);
        }
        Edge.edge("9: all that was drawn from it by tuning", PLAIN,
                "pour 0 1000; tune 0 60; tune 0 40; bell 0 8 = 0; bell 0 7 = 100; tune 0 1; bell 0 8 = 1",
                "bell 0 7 = 101");
        Edge.edge("9: all that was drawn from a hand bell by tuning", PLAIN,
                "pour 2 1000; tune 0 30; tune 0 20; bell 0 8 = 0; tune 0 1; bell 0 8 = 1");
        Edge.edge("9: what was drawn from another one does not count", PLAIN,
                "pour 0 1000; pour 0 1000; tune 0 100; tune 1 100; bell 0 8 = 0; bell 1 8 = 0");
        Edge.edge("9: a bell that cracks is tuned all the same", PLAIN,
                "pour 0 1000; tune 0 101 = 344; bell 0 2 = 899; lot 1 2 = 101; bell 0 8 = 1; count 3 = 1");
    }

    private static void promise10() {
        Edge.edge("10: there is no bell", "smash 0 = -1; smash -1 = -1; smash 99 = -1; smash 100 = -1");
        Edge.edge("10: bell: number of the bell", PLAIN,
                "pour 0 100; pour 0 50; smash -1 = -1; smash 2 = -1; smash 99 = -1; smash 100 = -1; smash least = -1",
                "smash greatest = -1; smash 1 = 50; smash 0 = 100; count 2 = 0");
        Edge.edge("10: NOT_POSSIBLE if it is sent", PLAIN + "; pour 0 100; order 0 2000 500; send 0 0; smash 0 = -2");
        Edge.edge("10: NOT_POSSIBLE if it is smashed", PLAIN, "pour 0 100; smash 0; smash 0 = -2; undo; smash 0 = 100");
        Edge.edge("10: one that is cracked is broken up too", PLAIN,
                "pour 0 100; tune 0 11; bell 0 8 = 1; smash 0 = 89; bell 0 8 = 3; count 3 = 0");
        Edge.edge("10: the lightest bell", PLAIN + "; pour 0 1; smash 0 = 1; lot 1 2 = 1; lot 1 4 = 2");
        Edge.edge("10: the heaviest bell", FULL + "; pour 0 10000; smash 0 = 10000; lot 1 2 = 10000; lot 1 0 = 8000");
        Edge.edge("10: when there are 12 lots", TWELVE_BELLS,
                "smash 5 = 100; count 0 = 12; lot 11 2 = 105; lot 11 4 = 0; smash 6 = 100; lot 11 2 = 205");
        Edge.edge("10: all of twelve bells", TWELVE_BELLS,
                "smash 0; smash 1; smash 2; smash 3; smash 4; smash 5; smash 6; smash 7; smash 8; smash 9; smash 10",
                "smash 11",
                "count 2 = 0; account 0 4 = 0; account 0 3 = 1008; lot 11 2 = 1205; wagons 0 = 0; wagons 1 = -1");
    }

    private static void promise11() {
        Edge.edge("11: there is no bell",
                "bell 0 0 = -1; bell -1 0 = -1; bell 0 8 = -1; bell 99 0 = -1; bell 100 0 = -1");
        Edge.edge("11: bell", PLAIN,
                "pour 0 1000; pour 1 100; bell -1 2 = -1; bell 0 2 = 1000; bell 1 2 = 100; bell 2 2 = -1",
                "bell 99 2 = -1; bell 100 2 = -1", "bell least 2 = -1; bell greatest 2 = -1");
        Edge.edge("11: what: 0 to 9", PLAIN,
                "pour 3 1000; tune 0 10; bell 0 -1 = -1; bell 0 0 = 792; bell 0 1 = 198; bell 0 2 = 990",
                "bell 0 3 = 200",
                "bell 0 4 = 3; bell 0 5 = 1090; bell 0 6 = 1000; bell 0 7 = 10; bell 0 8 = 0; bell 0 9 = -4",
                "bell 0 10 = -1; bell 0 least = -1; bell 0 greatest = -1");
    }

    private static void promise11WhatIsNotFound() {
        Edge.edge("11: NOT_FOUND for 0 to 3 if it is smashed", PLAIN,
                "pour 3 1000; tune 0 10; smash 0; bell 0 0 = -4; bell 0 1 = -4; bell 0 2 = -4; bell 0 3 = -4",
                "bell 0 4 = 3; bell 0 5 = 1090; bell 0 6 = 1000; bell 0 7 = 10; bell 0 8 = 3");
        Edge.edge("11: NOT_FOUND for 0 to 3 not if it is sent", PLAIN,
                "pour 3 1000; order 3 1150 0; send 0 0; bell 0 0 = 800; bell 0 1 = 200; bell 0 2 = 1000",
                "bell 0 3 = 200");
        Edge.edge("11: NOT_FOUND for 0 to 3 not if it is cracked", PLAIN,
                "set 2 1000; pour 3 1000; bell 0 0 = 800; bell 0 1 = 200; bell 0 2 = 1000; bell 0 3 = 200",
                "bell 0 9 = -4");
        Edge.edge("11: NOT_FOUND for 9 if it is not sent", PLAIN,
                "pour 0 1000; bell 0 9 = -4; tune 0 101; bell 0 9 = -4; smash 0; bell 0 9 = -4");
        Edge.edge("11: for 9 the order, also the first one", PLAIN,
                "pour 0 1000; pour 0 1000; order 0 950 0; order 0 950 0; send 1 0; send 0 1; bell 1 9 = 0",
                "bell 0 9 = 1");
        Edge.edge("11: INVALID_ARGUMENT rather than NOT_FOUND", PLAIN,
                "pour 0 1000; smash 0; bell 0 10 = -1; bell 0 -1 = -1; bell 1 0 = -1; bell 1 9 = -1");
    }

    private static void promise11States() {
        Edge.edge("11: 8: 0 if it is there", PLAIN + "; pour 0 1000; bell 0 8 = 0; tune 0 100; bell 0 8 = 0");
        Edge.edge("11: 8: 1 if it is cracked", PLAIN + "; pour 0 1000; tune 0 101; bell 0 8 = 1");
        Edge.edge("11: 8: 2 if it is sent", PLAIN + "; pour 0 1000; order 0 950 0; send 0 0; bell 0 8 = 2");
        Edge.edge("11: 8: 3 if it is smashed", PLAIN + "; pour 0 1000; smash 0; bell 0 8 = 3");
        Edge.edge("11: 8: 3 if it is smashed that was cracked", PLAIN,
                "pour 0 1000; tune 0 101; smash 0; bell 0 8 = 3");
        Edge.edge("11: 7: what was drawn from it, none at first", PLAIN,
                "pour 0 1000; bell 0 7 = 0; tune 0 1; bell 0 7 = 1; tune 0 2; bell 0 7 = 3; bell 0 6 = 1000");
    }
}
