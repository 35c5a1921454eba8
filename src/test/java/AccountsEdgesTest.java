/** The boundaries of promises 19 to 21, sentence by sentence. */
final class AccountsEdgesTest {
    /** A melt of 10000 pounds with the alloy 200; nothing burns. Four changes are in the history. */
    private static final String PLAIN = "buy 0 8000; charge 0 8000; buy 1 2000; charge 1 2000; set 0 0; set 1 0";
    private static final String TWELVE_BELLS = PLAIN + "; 12 x pour 0 100";

    private AccountsEdgesTest() {
    }

    public static void main(String[] args) {
        promise19Arguments();
        promise19EachAccount();
        promise19AddUp();
        promise20Arguments();
        promise20Limits();
        promise20EachNumber();
        promise21Empty();
        promise21FourStates();
        promise21WhatIsAChange();
        promise21EachChangeIsRestored();
        promise21WhatIsNot();
        promise21Restores();
        Due.end();
    }

    private static void promise19Arguments() {
        Edge.edge("19: metal: 0 or 1",
                "buy 0 5; buy 1 6; account -1 0 = -1; account 0 0 = 5; account 1 0 = 6; account 2 0 = -1",
                "account least 0 = -1; account greatest 0 = -1");
        Edge.edge("19: what: 0 to 6",
                "buy 0 5; account 0 -1 = -1; account 0 0 = 5; account 0 6 = 0; account 0 7 = -1; account 0 least = -1",
                "account 0 greatest = -1");
        Edge.edge("19: what: 0 to 6, of tin",
                "buy 1 5; account 1 -1 = -1; account 1 0 = 5; account 1 6 = 0; account 1 7 = -1; account 1 least = -1",
                "account 1 greatest = -1");
        Edge.edge("19: both are out of range", "account 2 7 = -1; account -1 -1 = -1");
    }

    private static void promise19EachAccount() {
        Edge.edge("19: of nothing",
                "account 0 0 = 0; account 0 1 = 0; account 0 2 = 0; account 0 3 = 0; account 0 4 = 0; account 0 5 = 0",
                "account 0 6 = 0",
                "account 1 0 = 0; account 1 1 = 0; account 1 2 = 0; account 1 3 = 0; account 1 4 = 0; account 1 5 = 0",
                "account 1 6 = 0");
        Edge.edge("19: 0: what was bought, 1: the stock, 2: in the melt",
                "buy 0 30; buy 0 20; buy 1 7; charge 0 10; charge 1 3",
                "account 0 0 = 50; account 0 1 = 40; account 0 2 = 10; account 1 0 = 7; account 1 1 = 4",
                "account 1 2 = 3");
        Edge.edge("19: 1: a stock that is charged wholly",
                "buy 0 30; charge 0 30; account 0 0 = 30; account 0 1 = 0; account 0 2 = 30");
        Edge.edge("19: 0: more than the limit of the stock",
                "10 x buy 1 100000; charge 1 20000; buy 1 20000; account 1 0 = 1020000; account 1 1 = 1000000",
                "account 1 2 = 20000");
        Edge.edge("19: 3: in scrap, of each kind", PLAIN,
                "pour 0 1000; tune 0 10; account 0 3 = 48; account 1 3 = 12; smash 0; account 0 3 = 840",
                "account 1 3 = 210");
        Edge.edge("19: 3: in twelve lots, and what is mixed with the latest one", TWELVE_BELLS,
                "account 0 3 = 48; account 1 3 = 12; smash 0; account 0 3 = 128; account 1 3 = 32");
        Edge.edge("19: 3: when the last lot is charged", PLAIN,
                "pour 0 100; scrap 0; account 0 3 = 0; account 1 3 = 0; account 0 2 = 7920");
        Edge.edge("19: 4: in bells that are neither sent nor smashed, cracked ones too", PLAIN,
                "pour 0 1000; pour 0 1000; set 2 1000; pour 0 1000; bell 2 8 = 1",
                "account 0 4 = 2400; account 1 4 = 600; smash 0; account 0 4 = 1600; order 0 950 0; send 1 0",
                "account 0 4 = 800; account 1 4 = 200; smash 2; account 0 4 = 0; account 1 4 = 0");
        Edge.edge("19: 5: in bells that are sent", PLAIN,
                "pour 0 1000; pour 0 1000; order 0 950 0; order 0 950 0; account 0 5 = 0; send 1 0; account 0 5 = 800",
                "account 1 5 = 200", "send 0 1; account 0 5 = 1600; account 1 5 = 400");
        Edge.edge("19: 6: slag, of the melt and of shavings", PLAIN,
                "pour 0 1000; tune 0 10; set 0 50; set 1 100; scrap 1; account 0 6 = 1; account 1 6 = 1; set 4 0",
                "pour 0 100; account 0 6 = 360; account 1 6 = 181");
    }

    /** Melt by melt: behind each call, what was bought is what is in all the other accounts. */
    private static void promise19AddUp() {
        BellFoundry f = new BellFoundry();
        f.buy(0, 16007);
        f.buy(1, 4003);
        for (int melt = 0; melt < 9; melt++) {
            f.charge(0, 1601);
            f.charge(1, 397);
            addsUp(f, "charged, melt " + melt);
            int bell = f.pour(melt % 4, 700 + 7 * melt);
            addsUp(f, "poured, melt " + melt);
            f.tune(bell, 11 + melt);
            addsUp(f, "tuned, melt " + melt);
            if (melt % 3 == 0) {
                f.smash(bell);
            } else {
                f.send(bell, f.order(melt % 4, f.bell(bell, 5), 0));
            }
            addsUp(f, "smashed or sent, melt " + melt);
            f.scrap(f.count(0) - 1);
            f.scrap(0);
            addsUp(f, "scrap charged, melt " + melt);
            if (melt % 2 == 0) {
                f.undo();
                addsUp(f, "undone, melt " + melt);
            }
        }
    }

    private static void addsUp(BellFoundry f, String when) {
        for (int metal = 0; metal <= 1; metal++) {
            int sum = 0;
            for (int what = 1; what <= 6; what++) {
                sum += f.account(metal, what);
            }
            Due.due("19: the accounts of the metal " + metal + " add up, " + when, sum, f.account(metal, 0));
        }
    }

    private static void promise20Arguments() {
        Edge.edge("20: what: 0 to 9",
                "count -1 = -1; count 0 = 0; count 9 = 0; count 10 = -1; count least = -1; count greatest = -1");
        Edge.edge("20: what: 20 to 26", "count 19 = -1; count 20 = 5; count 26 = 2000; count 27 = -1");
        Edge.edge("20: what: none between",
                "count 10 = -1; count 11 = -1; count 12 = -1; count 13 = -1; count 14 = -1; count 15 = -1",
                "count 16 = -1; count 17 = -1; count 18 = -1; count 19 = -1");
        Edge.edge("20: what: none far away",
                "count 100 = -1; count 255 = -1; count 256 = -1; count 65536 = -1; count -2 = -1; count -20 = -1");
    }

    private static void promise20Limits() {
        Edge.edge("20: 0: no lots and twelve", PLAIN,
                "count 0 = 0; 11 x pour 0 100; count 0 = 11; pour 0 100; count 0 = 12; tune 0 1; count 0 = 12",
                "scrap 0; count 0 = 11");
        Edge.edge("20: 1: bells that were poured, also sent and smashed ones", PLAIN,
                "count 1 = 0; pour 0 1000; pour 0 1000; pour 0 1000; order 0 950 0; send 0 0; smash 1; tune 2 101",
                "count 1 = 3");
        Edge.edge("20: 2: those that are neither sent nor smashed", TWELVE_BELLS,
                "count 2 = 12; order 0 1989 0; send 0 0; count 2 = 11; smash 1; count 2 = 10; tune 2 11; count 2 = 10");
        Edge.edge("20: 3: of these those that are cracked", TWELVE_BELLS,
                "count 3 = 0; tune 2 10; count 3 = 0; tune 2 1; count 3 = 1; tune 3 11; count 3 = 2; smash 2",
                "count 3 = 1; smash 3; count 3 = 0");
        Edge.edge("20: 4: those that are sent", PLAIN,
                "pour 0 1000; pour 0 1000; order 0 950 0; order 0 950 0; count 4 = 0; send 1 1; count 4 = 1; send 0 0",
                "count 4 = 2; undo; count 4 = 1");
        Edge.edge("20: 5: orders that have come, 6: neither served nor cancelled, 7: served",
                PLAIN, "pour 0 1000",
                "count 5 = 0; count 6 = 0; count 7 = 0; order 0 950 0; order 0 950 0; order 0 950 0; count 5 = 3",
                "count 6 = 3; count 7 = 0",
                "cancel 1; count 5 = 3; count 6 = 2; count 7 = 0; send 0 0; count 5 = 3; count 6 = 1; count 7 = 1",
                "cancel 2; count 5 = 3; count 6 = 0; count 7 = 1");
        Edge.edge("20: 6: eight at most", "8 x order 0 5 5; count 6 = 8; order 0 5 5 = -3; count 6 = 8; count 5 = 8");
        Edge.edge("20: 8: states in the history",
                "count 8 = 0; buy 0 1; count 8 = 1; buy 0 1; count 8 = 2; buy 0 1; count 8 = 3; buy 0 1; count 8 = 4",
                "buy 0 1; count 8 = 4; undo = 3; count 8 = 3");
        Edge.edge("20: 9: the length of the text",
                "count 9 = 0; type 32; count 9 = 1; 58 x type 40; count 9 = 59; type 40; count 9 = 60; type 40 = -3",
                "count 9 = 60; clearText = 60; count 9 = 0");
    }

    private static void promise20EachNumber() {
        Edge.edge("20: 20 to 26: the settings 0 to 6",
                "set 0 41; set 1 42; set 2 43; set 3 44; set 4 45; set 5 46; set 6 47",
                "count 20 = 41; count 21 = 42; count 22 = 43; count 23 = 44; count 24 = 45; count 25 = 46",
                "count 26 = 47");
        Edge.edge("20: 20 to 26: the least values",
                "set 0 0; set 1 0; set 2 0; set 3 0; set 4 0; set 5 1; set 6 1; count 20 = 0; count 21 = 0",
                "count 22 = 0; count 23 = 0; count 24 = 0; count 25 = 1; count 26 = 1");
        Edge.edge("20: 20 to 26: the most",
                "set 0 50; set 1 100; set 2 1000; set 3 1000; set 4 300; set 5 50; set 6 20000",
                "count 20 = 50; count 21 = 100; count 22 = 1000; count 23 = 1000; count 24 = 300; count 25 = 50",
                "count 26 = 20000");
    }

    private static void promise21Empty() {
        Edge.edge("21: NOT_POSSIBLE if it is empty",
                "undo = -2; undo = -2; buy 0 1; undo = 0; undo = -2; account 0 1 = 0");
        Edge.edge("21: NOT_POSSIBLE if only the text has changed", "type 40; undo = -2; clearText; undo = -2");
        Edge.edge("21: NOT_POSSIBLE if all calls were refused",
                "buy 0 0 = -1; charge 0 1 = -2; smash 0 = -1; undo = -2");
        Edge.edge("21: the number of states that are left, from one", "buy 0 1; undo = 0");
        Edge.edge("21: the number of states that are left, from four",
                "4 x buy 0 1; undo = 3; undo = 2; undo = 1; undo = 0; undo = -2");
    }

    private static void promise21FourStates() {
        Edge.edge("21: at most 4 states: all four come back",
                "buy 0 1; buy 0 2; buy 0 4; buy 0 8; undo = 3; account 0 1 = 7; undo = 2; account 0 1 = 3; undo = 1",
                "account 0 1 = 1; undo = 0; account 0 1 = 0");
        Edge.edge("21: if there are 5, the oldest one is dropped",
                "buy 0 1; buy 0 2; buy 0 4; buy 0 8; buy 0 16; count 8 = 4; undo = 3; account 0 1 = 15; undo = 2",
                "account 0 1 = 7; undo = 1; account 0 1 = 3", "undo = 0; account 0 1 = 1; undo = -2; account 0 1 = 1");
        Edge.edge("21: with each further one the oldest one is dropped",
                "buy 0 1; buy 0 2; buy 0 4; buy 0 8; buy 0 16; buy 0 32; buy 0 64; buy 0 128; buy 0 256; 4 x undo",
                "account 0 1 = 31; undo = -2");
        Edge.edge("21: the latest state, which is removed from it",
                "buy 0 1; buy 0 2; undo = 1; account 0 1 = 1; buy 0 4; account 0 1 = 5; undo = 1; account 0 1 = 1",
                "undo = 0; account 0 1 = 0; undo = -2");
        Edge.edge("21: the history is full again behind an undo",
                "4 x buy 0 1; undo = 3; buy 0 10; count 8 = 4; buy 0 20; count 8 = 4; undo = 3; account 0 1 = 13",
                "undo = 2; account 0 1 = 3; undo = 1; account 0 1 = 2; undo = 0; account 0 1 = 1; undo = -2");
        Edge.edge("21: an undo is no change", "buy 0 1; buy 0 2; undo = 1; undo = 0; undo = -2; account 0 1 = 0");
    }

    private static void promise21WhatIsAChange() {
        Edge.edge("21: buy is one", "buy 0 1; count 8 = 1; undo = 0; account 0 0 = 0; account 0 1 = 0");
        Edge.edge("21: charge is one", "buy 0 1; charge 0 1; count 8 = 2; undo = 1; melt 0 = 0; account 0 1 = 1");
        Edge.edge("21: set is one, also to what it is",
                "set 0 5 = 5; count 8 = 1; set 0 6; count 8 = 2; undo = 1; count 20 = 5; undo = 0; count 20 = 5",
                "undo = -2");
        Edge.edge("21: order and cancel are",
                "order 0 5 5; count 8 = 1; cancel 0; count 8 = 2; undo = 1; orderOf 0 3 = 0; undo = 0",
                "orderOf 0 3 = -1; count 5 = 0");
        Edge.edge("21: pour is one",
                "buy 0 100; charge 0 100; pour 0 50; count 8 = 3; undo = 2; melt 2 = 100; account 0 6 = 0",
                "count 0 = 0; count 1 = 0; bell 0 2 = -1");
    }

    private static void promise21EachChangeIsRestored() {
        String there = PLAIN + "; pour 0 1000; pour 0 100; count 8 = 4";
        Edge.edge("21: pour is undone", there,
                "pour 3 200 = 2; undo = 3; bell 2 2 = -1; count 1 = 2; count 0 = 2; melt 2 = 8845; lot 2 2 = -1");
        Edge.edge("21: tune is undone", there,
                "tune 0 101 = 344; undo = 3; bell 0 2 = 1000; bell 0 0 = 800; bell 0 5 = 950; bell 0 7 = 0",
                "bell 0 8 = 0; count 0 = 2");
        Edge.edge("21: smash is undone", there,
                "smash 0; undo = 3; bell 0 2 = 1000; bell 0 8 = 0; count 0 = 2; count 2 = 2; account 0 3 = 44");
        Edge.edge("21: scrap is undone", there,
                "scrap 0 = 8895; undo = 3; melt 2 = 8845; lot 0 2 = 50; lot 1 2 = 5; count 0 = 2");
        Edge.edge("21: scrap of shavings and its slag are undone", there,
                "tune 0 10; set 0 50; set 1 100; scrap 2 = 8853; account 0 6 = 1; undo = 3; account 0 6 = 0",
                "account 1 6 = 0; lot 2 4 = 1; lot 2 2 = 10");
        Edge.edge("21: the kinds of lots are restored that came to stand where others stood", PLAIN,
                "pour 0 1000; tune 0 10; smash 0; scrap 0; lot 0 4 = 1; lot 1 4 = 2; undo = 3; lot 0 4 = 0; lot 1 4 = 1",
                "lot 2 4 = 2; lot 0 2 = 50; lot 1 2 = 10; lot 2 2 = 990; undo = 2; lot 1 4 = 1; lot 2 4 = -1");
        Edge.edge("21: send is undone", there,
                "order 0 950 0; send 0 0; undo = 3; bell 0 8 = 0; bell 0 9 = -4; orderOf 0 3 = 0; account 0 5 = 0",
                "count 6 = 1; count 7 = 0; send 0 0 = 1000");
        Edge.edge("21: cancel is undone", there, "order 0 950 0; cancel 0; undo = 3; orderOf 0 3 = 0; send 0 0 = 1000");
        Edge.edge("21: a lot that was mixed with the latest one is undone", TWELVE_BELLS,
                "smash 0; lot 11 2 = 105; undo = 3; lot 11 2 = 5; lot 11 0 = 4; lot 11 4 = 0; count 0 = 12",
                "bell 0 2 = 100");
        Edge.edge("21: a number that was undone is given again", there,
                "pour 1 300 = 2; undo; pour 2 200 = 2; bell 2 4 = 2; bell 2 6 = 200; bell 2 7 = 0; order 0 5 5 = 0",
                "undo; order 1 6 6 = 0; orderOf 0 0 = 1");
        Edge.edge("21: a number of a bell that was tuned, cracked and sent is given again as new", there,
                "pour 0 1000 = 2; tune 2 101; undo; undo; pour 1 500 = 2; bell 2 8 = 0; bell 2 7 = 0; bell 2 9 = -4",
                "bell 2 6 = 500");
    }

    private static void promise21WhatIsNot() {
        String there = "buy 0 900; charge 0 800; buy 1 300; charge 1 200";
        Edge.edge("21: calls that are refused are no changes", there,
                "buy 2 1 = -1; charge 0 101 = -2; scrap 0 = -1; set 7 0 = -1; set 0 51 = -1; pour 0 1000 = -2",
                "tune 0 1 = -1; smash 0 = -1; order 0 0 0 = -1; cancel 0 = -1; send 0 0 = -1",
                "count 8 = 4; undo = 3; melt 2 = 800");
        Edge.edge("21: questions are no changes", there,
                "order 0 950 0; lot 0 0 = -1; melt 4; melt 5; bell 0 0 = -1; orderOf 0 5; tuneFor 0 0 = -1; pourFor 0",
                "wagons 0; account 0 0; count 0; fault 0; frame 0 = -2", "count 8 = 4; undo = 3; count 5 = 0");
        Edge.edge("21: type and clearText are no changes", there,
                "type 40; clearText; type 41; count 8 = 4; undo = 3; melt 2 = 800");
        Edge.edge("21: everything but the text",
                "type 40; buy 0 1; type 48; type 44; undo = 0; count 9 = 3; fault 0 = 1; fault 1 = 2; buy 0 1",
                "clearText = 3; undo = 0; count 9 = 0; fault 1 = 4");
        Edge.edge("21: a text that was typed ahead of it all remains",
                "type 40; 5 x buy 0 1; 4 x undo; undo = -2; count 9 = 1; clearText = 1");
    }

    private static void promise21Restores() {
        Edge.edge("21: a fault of the text goes by the bells that are restored", PLAIN, "pour 0 100; write 0",
                "fault 0 = -4; undo; fault 0 = 0; fault 1 = 2; frame 0 = -2; pour 0 200; fault 0 = -4; frame 0 = 200",
                "smash 0; fault 1 = 2; undo; frame 0 = 200");
        Edge.edge("21: the load and the bells of wagons are restored", PLAIN,
                "pour 0 100; pour 0 200; set 6 250; wagons 3 = 2; undo; wagons 3 = 1; undo; wagons 3 = -1",
                "wagons 1 = 1");
        Edge.edge("21: limits go by what is restored", TWELVE_BELLS,
                "pour 0 100 = -3; undo; pour 0 100 = 11; pour 0 100 = -3; smash 0; undo; pour 0 100 = -3");
        Edge.edge("21: the stock at its limit is restored",
                "10 x buy 0 100000; buy 0 1 = -3; undo; account 0 1 = 900000; account 0 0 = 900000",
                "buy 0 100000 = 1000000; charge 0 5; undo; buy 0 1 = -3; melt 2 = 0");
        Edge.edge("21: cracks go by the settings that are restored", PLAIN,
                "set 2 201; undo; pour 0 100; bell 0 8 = 0");
    }
}
