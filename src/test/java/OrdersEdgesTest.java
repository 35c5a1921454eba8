/** The boundaries of promises 12 to 18, sentence by sentence. */
final class OrdersEdgesTest {
    /** A melt of 10000 pounds with the alloy 200; nothing burns. A church bell of 1000 pounds then has the pitch 950. */
    private static final String PLAIN = "buy 0 8000; charge 0 8000; buy 1 2000; charge 1 2000; set 0 0; set 1 0";
    /** The same with 20000 pounds. */
    private static final String FULL = "buy 0 16000; charge 0 16000; buy 1 4000; charge 1 4000; set 0 0; set 1 0";
    private static final String A_BELL = PLAIN + "; pour 0 1000; bell 0 5 = 950";
    private static final String TWELVE_BELLS = PLAIN + "; 12 x pour 0 100";

    private OrdersEdgesTest() {
    }

    public static void main(String[] args) {
        promise12Arguments();
        promise12Limits();
        promise13();
        promise14Arguments();
        promise14States();
        promise14Fits();
        promise15();
        promise15Bells();
        promise16Arguments();
        promise16Pitch();
        promise16Cracks();
        promise17();
        promise17Weights();
        promise17ByTheMeltAlone();
        promise18Sets();
        promise18Load();
        promise18Fewest();
        Due.end();
    }

    private static void promise12Arguments() {
        Edge.edge("12: profile: 0 to 3",
                "order -1 5 5 = -1; order 4 5 5 = -1; order least 5 5 = -1; order greatest 5 5 = -1",
                "order 0 5 5 = 0; order 1 5 5 = 1; order 2 5 5 = 2; order 3 5 5 = 3; orderOf 0 0 = 0; orderOf 3 0 = 3");
        Edge.edge("12: pitch: 1 to 20000",
                "order 0 0 5 = -1; order 0 -1 5 = -1; order 0 20001 5 = -1; order 0 least 5 = -1",
                "order 0 greatest 5 = -1",
                "order 0 1 5 = 0; order 0 20000 5 = 1; orderOf 0 1 = 1; orderOf 1 1 = 20000");
        Edge.edge("12: tolerance: 0 to 500",
                "order 0 5 -1 = -1; order 0 5 501 = -1; order 0 5 least = -1; order 0 5 greatest = -1",
                "order 0 5 0 = 0; order 0 5 500 = 1; orderOf 0 2 = 0; orderOf 1 2 = 500");
    }

    private static void promise12Limits() {
        Edge.edge("12: LIMIT_REACHED if 8 are neither served nor cancelled",
                "7 x order 0 5 5; order 0 5 5 = 7; order 0 5 5 = -3; count 6 = 8; count 5 = 8");
        Edge.edge("12: one that is cancelled leaves room for one",
                "8 x order 0 5 5; cancel 3; order 0 5 5 = 8; order 0 5 5 = -3");
        Edge.edge("12: one that is served leaves room for one", A_BELL,
                "7 x order 0 5 5; order 0 950 0; send 0 7; order 0 5 5 = 8; order 0 5 5 = -3");
        Edge.edge("12: LIMIT_REACHED if 100 have come", orderAndCancel(98),
                "order 0 5 5 = 99; order 0 5 5 = -3; cancel 99 = 0; order 0 5 5 = -3; count 5 = 100",
                "count 6 = 0; orderOf 99 1 = 5; orderOf 100 1 = -1; undo; undo; order 0 6 6 = 99; orderOf 99 1 = 6",
                "order 0 5 5 = -3");
        Edge.edge("12: INVALID_ARGUMENT rather than LIMIT_REACHED of 8",
                "8 x order 0 5 5; order 4 5 5 = -1; order 0 0 5 = -1; order 0 20001 5 = -1; order 0 5 501 = -1",
                "order 0 5 -1 = -1");
        Edge.edge("12: INVALID_ARGUMENT rather than LIMIT_REACHED of 100", orderAndCancel(99),
                "order 4 5 5 = -1; order 0 0 5 = -1; order 0 5 501 = -1; order 0 5 5 = -3");
    }

    /** From the number 0 to another one. */
    private static String orderAndCancel(int to) {
        StringBuilder calls = new StringBuilder();
        for (int order = 0; order <= to; order++) {
            calls.append("order 0 5 5 = ").append(order).append("; cancel ").append(order).append(" = 0;");
        }
        return calls.toString();
    }

    private static void promise13() {
        Edge.edge("13: there is no order", "cancel 0 = -1; cancel -1 = -1; cancel 99 = -1; cancel 100 = -1");
        Edge.edge("13: order: number of the order",
                "order 0 5 5; order 0 5 5; cancel -1 = -1; cancel 2 = -1; cancel 99 = -1; cancel 100 = -1",
                "cancel least = -1", "cancel greatest = -1; cancel 1 = 1; cancel 0 = 0");
        Edge.edge("13: NOT_POSSIBLE if it is cancelled",
                "order 0 5 5; cancel 0 = 0; cancel 0 = -2; undo; cancel 0 = 0");
        Edge.edge("13: NOT_POSSIBLE if it is served", A_BELL,
                "order 0 950 0; order 0 5 5; send 0 0; cancel 0 = -2; cancel 1 = 0");
        Edge.edge("13: how many are left of the most",
                "8 x order 0 5 5; cancel 7 = 7; cancel 0 = 6; order 0 5 5 = 8; cancel 8 = 6");
        Edge.edge("13: a served one is not left", A_BELL,
                "order 0 950 0; order 0 5 5; order 0 5 5; send 0 0; cancel 1 = 1; count 6 = 1");
    }

    private static void promise14Arguments() {
        Edge.edge("14: there is no bell",
                "order 0 5 5; send 0 0 = -1; send -1 0 = -1; send 99 0 = -1; send 100 0 = -1");
        Edge.edge("14: there is no order", A_BELL, "send 0 0 = -1; send 0 -1 = -1; send 0 99 = -1; send 0 100 = -1");
        Edge.edge("14: bell: number of the bell", A_BELL,
                "order 0 950 0; send -1 0 = -1; send 1 0 = -1; send 99 0 = -1; send 100 0 = -1; send least 0 = -1",
                "send greatest 0 = -1; send 0 0 = 1000");
        Edge.edge("14: order: number of the order", A_BELL,
                "order 0 950 0; send 0 -1 = -1; send 0 1 = -1; send 0 99 = -1; send 0 100 = -1; send 0 least = -1",
                "send 0 greatest = -1; send 0 0 = 1000");
        Edge.edge("14: INVALID_ARGUMENT of the bell rather than NOT_POSSIBLE",
                "order 0 5 5; cancel 0; send 0 0 = -1; send -1 0 = -1");
        Edge.edge("14: INVALID_ARGUMENT of the order rather than NOT_POSSIBLE", A_BELL,
                "smash 0; send 0 0 = -1; send 0 -1 = -1");
    }

    private static void promise14States() {
        Edge.edge("14: NOT_POSSIBLE if the bell is sent", A_BELL,
                "order 0 950 0; order 0 950 0; send 0 0; send 0 1 = -2; send 0 0 = -2");
        Edge.edge("14: NOT_POSSIBLE if the bell is smashed", A_BELL,
                "order 0 950 0; smash 0; send 0 0 = -2; undo; send 0 0 = 1000");
        Edge.edge("14: NOT_POSSIBLE if the bell is cracked by tuning", A_BELL,
                "tune 0 101 = 344; order 0 344 500; send 0 0 = -2; undo; undo; tune 0 100 = 350; order 0 344 500",
                "send 0 0 = 900");
        Edge.edge("14: NOT_POSSIBLE if the bell is cracked by its alloy", PLAIN,
                "set 2 201; pour 0 1000; order 0 950 0; send 0 0 = -2");
        Edge.edge("14: NOT_POSSIBLE if the order is served", A_BELL,
                "pour 0 1000; order 0 950 0; send 0 0; send 1 0 = -2; undo; send 1 0 = 1000");
        Edge.edge("14: NOT_POSSIBLE if the order is cancelled", A_BELL,
                "order 0 950 0; cancel 0; send 0 0 = -2; undo; send 0 0 = 1000");
        Edge.edge("14: NOT_POSSIBLE if it is heavier than the load of a wagon", A_BELL,
                "order 0 950 0; set 6 999; send 0 0 = -2; set 6 1 = 999; send 0 0 = -2; set 6 1000; send 0 0 = 1000");
        Edge.edge("14: the lightest bell and the least load", PLAIN,
                "set 2 0; set 3 1000; pour 0 1; pour 0 2; order 0 9250 0; order 0 7325 0; set 6 1; send 1 1 = -2",
                "send 0 0 = 1");
        Edge.edge("14: the heaviest bell", FULL,
                "pour 0 10000; order 0 467 0; set 6 9999; send 0 0 = -2; set 6 10000; send 0 0 = 10000");
        Edge.edge("14: as heavy as it is then, not as it was poured", A_BELL,
                "tune 0 1 = 944; order 0 944 0; set 6 999; send 0 0 = 999");
        Edge.edge("14: all that a sent bell holds goes away", A_BELL,
                "order 0 950 0; send 0 0; account 0 4 = 0; account 1 4 = 0; account 0 5 = 800; account 1 5 = 200",
                "count 2 = 0; count 4 = 1; count 6 = 0; count 7 = 1");
    }

    private static void promise14Fits() {
        Edge.edge("14: its pitch is above by the tolerance at most", A_BELL,
                "order 0 939 10; order 0 940 10; send 0 0 = -2; send 0 1 = 1000");
        Edge.edge("14: its pitch is below by the tolerance at most", A_BELL,
                "order 0 961 10; order 0 960 10; send 0 0 = -2; send 0 1 = 1000");
        Edge.edge("14: a tolerance of 0", A_BELL,
                "order 0 949 0; order 0 951 0; order 0 950 0; send 0 0 = -2; send 0 1 = -2; send 0 2 = 1000");
        Edge.edge("14: the greatest tolerance, from above", A_BELL,
                "order 0 449 500; order 0 450 500; send 0 0 = -2; send 0 1 = 1000");
        Edge.edge("14: the greatest tolerance, from below", A_BELL,
                "order 0 1451 500; order 0 1450 500; send 0 0 = -2; send 0 1 = 1000");
        Edge.edge("14: a tolerance greater than the pitch", A_BELL,
                "set 5 50; tune 0 19 = 1; order 0 1 500; order 0 501 500; order 0 502 500; send 0 2 = -2",
                "send 0 1 = 981");
        for (int profile = 0; profile < 4; profile++) {
            int another = (profile + 1) % 4;
            int pitch = new int[] {950, 1250, 1550, 1150}[profile];
            Edge.edge("14: the profile of the order, not " + another + " but " + profile, PLAIN,
                    "pour " + profile + " 1000",
                    "order " + another + " " + pitch + " 500; order " + profile + " " + pitch + " 0; send 0 0 = -2; send 0 1 = 1000");
        }
    }

    private static void promise15() {
        Edge.edge("15: there is no order",
                "orderOf 0 0 = -1; orderOf -1 0 = -1; orderOf 0 3 = -1; orderOf 99 0 = -1; orderOf 100 0 = -1");
        Edge.edge("15: order: number of the order",
                "order 0 7 5; order 0 8 5; orderOf -1 1 = -1; orderOf 0 1 = 7; orderOf 1 1 = 8; orderOf 2 1 = -1",
                "orderOf 99 1 = -1", "orderOf 100 1 = -1; orderOf least 1 = -1; orderOf greatest 1 = -1");
        Edge.edge("15: what: 0 to 5",
                "order 2 345 67; orderOf 0 -1 = -1; orderOf 0 0 = 2; orderOf 0 1 = 345; orderOf 0 2 = 67",
                "orderOf 0 3 = 0; orderOf 0 4 = -4",
                "orderOf 0 5 = 0; orderOf 0 6 = -1; orderOf 0 least = -1; orderOf 0 greatest = -1");
        Edge.edge("15: 3: 0 if it is not served, 1 if it is, 2 if it is cancelled", A_BELL,
                "order 0 950 0; order 0 950 0; order 0 950 0; send 0 1; cancel 2",
                "orderOf 0 3 = 0; orderOf 1 3 = 1; orderOf 2 3 = 2");
        Edge.edge("15: INVALID_ARGUMENT rather than NOT_FOUND",
                "orderOf 0 4 = -1; orderOf -1 4 = -1; order 0 5 5; orderOf 1 4 = -1; orderOf 0 4 = -4",
                "orderOf 0 6 = -1");
    }

    private static void promise15Bells() {
        Edge.edge("15: NOT_FOUND for 4 if none does, 0 for 5", "order 0 950 0; orderOf 0 4 = -4; orderOf 0 5 = 0",
                PLAIN, "pour 1 1000; orderOf 0 4 = -4; orderOf 0 5 = 0",
                "pour 0 1000; orderOf 0 4 = 1; orderOf 0 5 = 1; smash 1; orderOf 0 4 = -4; orderOf 0 5 = 0");
        Edge.edge("15: 4: the lowest bell, also if it is the first one", A_BELL,
                "order 0 950 0; orderOf 0 4 = 0; orderOf 0 5 = 1; pour 0 1000; orderOf 0 4 = 0; orderOf 0 5 = 2");
        Edge.edge("15: by at most the tolerance", A_BELL,
                "order 0 939 10; order 0 940 10; order 0 960 10; order 0 961 10; orderOf 0 5 = 0; orderOf 1 5 = 1",
                "orderOf 2 5 = 1; orderOf 3 5 = 0",
                "orderOf 0 4 = -4; orderOf 1 4 = 0; orderOf 2 4 = 0; orderOf 3 4 = -4");
        // By the root 464, 900000 / 464 is 1939, and the alloy adds 50.
        Edge.edge("15: twelve bells fit it", TWELVE_BELLS,
                "order 0 1989 0; orderOf 0 4 = 0; orderOf 0 5 = 12; smash 0; orderOf 0 4 = 1; orderOf 0 5 = 11");
        Edge.edge("15: a sent one fits none", A_BELL,
                "order 0 950 0; order 0 950 0; send 0 0; orderOf 1 4 = -4; orderOf 1 5 = 0; orderOf 0 4 = -4",
                "orderOf 0 5 = 0");
        Edge.edge("15: a smashed one fits none", A_BELL, "order 0 950 0; smash 0; orderOf 0 4 = -4; orderOf 0 5 = 0");
        Edge.edge("15: a cracked one fits none", A_BELL,
                "tune 0 101; order 0 344 500; orderOf 0 4 = -4; orderOf 0 5 = 0");
        Edge.edge("15: one that is heavier than the load fits", A_BELL,
                "order 0 950 0; set 6 1; orderOf 0 4 = 0; orderOf 0 5 = 1; send 0 0 = -2");
    }

    private static void promise16Arguments() {
        Edge.edge("16: there is no bell",
                "order 0 5 5; tuneFor 0 0 = -1; tuneFor -1 0 = -1; tuneFor 99 0 = -1; tuneFor 100 0 = -1");
        Edge.edge("16: there is no order", A_BELL,
                "tuneFor 0 0 = -1; tuneFor 0 -1 = -1; tuneFor 0 99 = -1; tuneFor 0 100 = -1");
        Edge.edge("16: bell: number of the bell", A_BELL,
                "order 0 944 0; tuneFor -1 0 = -1; tuneFor 0 0 = 1; tuneFor 1 0 = -1; tuneFor least 0 = -1",
                "tuneFor greatest 0 = -1");
        Edge.edge("16: order: number of the order", A_BELL,
                "order 0 944 0; tuneFor 0 -1 = -1; tuneFor 0 0 = 1; tuneFor 0 1 = -1; tuneFor 0 least = -1",
                "tuneFor 0 greatest = -1");
        Edge.edge("16: NOT_POSSIBLE if the bell is sent", A_BELL,
                "order 0 950 0; order 0 944 0; send 0 0; tuneFor 0 0 = -2; tuneFor 0 1 = -2");
        Edge.edge("16: NOT_POSSIBLE if the bell is smashed", A_BELL,
                "order 0 950 0; order 0 944 0; smash 0; tuneFor 0 0 = -2; tuneFor 0 1 = -2");
        Edge.edge("16: NOT_POSSIBLE if the bell is cracked", A_BELL,
                "tune 0 101; order 0 344 0; order 0 338 0; tuneFor 0 0 = -2; tuneFor 0 1 = -2");
        Edge.edge("16: INVALID_ARGUMENT rather than NOT_POSSIBLE", A_BELL,
                "smash 0; tuneFor 0 0 = -1; tuneFor 0 -1 = -1; order 0 5 5; tuneFor 1 0 = -1; tuneFor 0 0 = -2");
        Edge.edge("16: INVALID_ARGUMENT rather than NOT_FOUND", A_BELL,
                "order 0 20000 0; tuneFor 0 0 = -4; tuneFor 0 1 = -1; tuneFor 1 0 = -1");
        Edge.edge("16: NOT_POSSIBLE rather than NOT_FOUND", A_BELL,
                "order 0 20000 0; order 1 950 0; tuneFor 0 0 = -4; tuneFor 0 1 = -4; smash 0; tuneFor 0 0 = -2",
                "tuneFor 0 1 = -2");
    }

    private static void promise16Pitch() {
        Edge.edge("16: 0 if it fits, from above", A_BELL,
                "order 0 940 10; tuneFor 0 0 = 0; order 0 939 10; tuneFor 0 1 = 1");
        Edge.edge("16: 0 if it fits, from below", A_BELL,
                "order 0 960 10; tuneFor 0 0 = 0; order 0 961 10; tuneFor 0 1 = -4");
        Edge.edge("16: 0 without a tolerance", A_BELL, "order 0 950 0; tuneFor 0 0 = 0");
        // By 6 a pound: 950, 944, 938, ..
        Edge.edge("16: the fewest pounds", A_BELL,
                "order 0 944 0; tuneFor 0 0 = 1; order 0 938 0; tuneFor 0 1 = 2; order 0 932 6; tuneFor 0 2 = 2",
                "order 0 932 5; tuneFor 0 3 = 3",
                "order 0 933 5; tuneFor 0 4 = 2; order 0 937 6; tuneFor 0 5 = 2; order 0 937 7; tuneFor 0 6 = 1");
        Edge.edge("16: NOT_FOUND between two pounds", A_BELL,
                "order 0 947 2; tuneFor 0 0 = -4; order 0 947 3; tuneFor 0 1 = 0; order 0 941 2; tuneFor 0 2 = -4",
                "order 0 941 3; tuneFor 0 3 = 1");
        Edge.edge("16: NOT_FOUND if its pitch is too low already", A_BELL,
                "order 0 951 0; order 0 20000 500; order 0 1451 500; tuneFor 0 0 = -4; tuneFor 0 1 = -4",
                "tuneFor 0 2 = -4");
        Edge.edge("16: NOT_FOUND if it has another profile", A_BELL,
                "order 1 950 500; order 3 944 0; tuneFor 0 0 = -4; tuneFor 0 1 = -4");
        Edge.edge("16: down to a pitch of 1", A_BELL,
                "set 5 50; order 0 1 0; tuneFor 0 0 = 19; order 0 1 48; tuneFor 0 1 = 19; order 0 1 49",
                "tuneFor 0 2 = 18");
        Edge.edge("16: by the setting 5 as it is", A_BELL,
                "order 0 900 0; tuneFor 0 0 = -4; set 5 50; tuneFor 0 0 = 1; set 5 1; tuneFor 0 0 = 50");
        Edge.edge("16: for a cancelled order", A_BELL, "order 0 944 0; cancel 0; tuneFor 0 0 = 1");
        Edge.edge("16: for a served order", A_BELL, "pour 0 1000; order 0 950 6; send 0 0; tuneFor 1 0 = 0");
    }

    private static void promise16Cracks() {
        Edge.edge("16: NOT_FOUND if it would crack by them", A_BELL,
                "order 0 350 0; order 0 344 0; tuneFor 0 0 = 100; tuneFor 0 1 = -4");
        Edge.edge("16: NOT_FOUND if a hand bell would crack by them", PLAIN,
                "pour 2 1000; bell 0 5 = 1550; order 2 1250 0; order 2 1244 0; tuneFor 0 0 = 50; tuneFor 0 1 = -4");
        Edge.edge("16: what was drawn already counts", A_BELL,
                "tune 0 40 = 710; order 0 335 0; order 0 329 0; tuneFor 0 0 = 60; tuneFor 0 1 = -4");
        Edge.edge("16: NOT_FOUND for what would crack by a pound", A_BELL,
                "tune 0 100 = 350; order 0 344 0; order 0 350 0; tuneFor 0 0 = -4; tuneFor 0 1 = 0");
        Edge.edge("16: the lightest bell that does not crack by a pound", PLAIN,
                "pour 0 9; pour 0 10; tune 0 1; bell 0 8 = 1; bell 1 5 = 4236; order 0 3636 0; tuneFor 1 0 = 1",
                "tuneFor 0 0 = -2");
        Edge.edge("16: a bell that would crack by its first pound", PLAIN,
                "pour 0 9; bell 0 5 = 4381; bell 0 8 = 0; order 0 3715 0; order 0 4381 0; tuneFor 0 0 = -4",
                "tuneFor 0 1 = 0");
        Edge.edge("16: a bell of a pound", PLAIN,
                "set 3 1000; pour 0 1; bell 0 8 = 0; order 0 3250 0; order 0 1 500; tuneFor 0 0 = -4",
                "tuneFor 0 1 = -4");
        // 467 less 3 * 1000 * n / 10000: 300 less by 1000 pounds, 299 by 997 to 999.
        Edge.edge("16: by 1 to 1000 pounds", FULL,
                "pour 0 10000; bell 0 5 = 467; set 5 3; order 0 167 0; order 0 168 0; tuneFor 0 0 = 1000",
                "tuneFor 0 1 = 997");
        Edge.edge("16: NOT_FOUND by more than 1000 pounds", FULL,
                "pour 0 10000; bell 0 5 = 467; set 5 3; order 0 166 0; order 0 1 0; tuneFor 0 0 = -4",
                "tuneFor 0 1 = -4");
    }

    private static void promise17() {
        Edge.edge("17: there is no order", PLAIN, "pourFor 0 = -1; pourFor -1 = -1; pourFor 99 = -1; pourFor 100 = -1");
        Edge.edge("17: order: number of the order", PLAIN,
                "order 0 1 0; pourFor -1 = -1; pourFor 1 = -1; pourFor 99 = -1; pourFor 100 = -1; pourFor least = -1",
                "pourFor greatest = -1; pourFor 0 = 9523");
        Edge.edge("17: NOT_FOUND without a melt", "order 0 1 500; pourFor 0 = -4");
        Edge.edge("17: NOT_FOUND if all of it would burn",
                "order 0 1 500; buy 0 1; buy 1 1; charge 0 1; charge 1 1; pourFor 0 = -4; set 4 0; pourFor 0 = -4",
                "set 0 0; pourFor 0 = 1");
        Edge.edge("17: NOT_FOUND if no pitch is so high", PLAIN,
                "order 0 9251 500; order 0 9250 0; order 0 20000 500; pourFor 0 = -4; pourFor 1 = 1; pourFor 2 = -4");
        Edge.edge("17: INVALID_ARGUMENT rather than NOT_FOUND",
                "pourFor 0 = -1; order 0 1 0; pourFor 1 = -1; pourFor 0 = -4");
        Edge.edge("17: the highest pitch of all",
                "buy 1 100; charge 1 100; set 1 0; order 2 15250 0; order 2 15251 0; order 1 12250 0; pourFor 0 = 1",
                "pourFor 1 = -4; pourFor 2 = 1");
    }

    private static void promise17Weights() {
        Edge.edge("17: the greatest weight is 10000", FULL,
                "order 0 1 0; order 0 467 0; order 0 468 0; pourFor 0 = 10000; pourFor 1 = 10000; pourFor 2 = 9993",
                "set 4 0; pourFor 0 = 10000");
        Edge.edge("17: a melt that is just heavy enough for 10000",
                "buy 0 10500; charge 0 10499; set 0 0; order 0 1 0; pourFor 0 = 9999; charge 0 1; pourFor 0 = 10000");
        Edge.edge("17: the least weight is 1",
                "buy 0 3; charge 0 2; set 0 0; order 0 9000 0; order 0 1 0; pourFor 0 = 1; pourFor 1 = 1; charge 0 1",
                "pourFor 0 = 1; pourFor 1 = 2");
        Edge.edge("17: the sprue counts",
                "buy 0 2; charge 0 1; set 0 0; order 0 1 0; pourFor 0 = -4; set 4 0; pourFor 0 = 1; set 4 300",
                "charge 0 1; pourFor 0 = 1");
        Edge.edge("17: the burn counts",
                "buy 0 1000; charge 0 1000; set 4 0; order 0 1 0; pourFor 0 = 995; set 0 50; pourFor 0 = 950; set 0 0",
                "pourFor 0 = 1000");
        Edge.edge("17: a pitch of at least that of the order",
                "buy 0 20000; charge 0 20000; set 0 0; order 0 4500 0; order 0 4501 0; order 0 4499 0; pourFor 0 = 8",
                "pourFor 1 = 7; pourFor 2 = 8", "pour 0 8; bell 0 5 = 4500; pour 0 7; bell 1 5 = 4712");
        // 900000 / 1000 + 50, up to 1003 pounds, whose root is 1000 still.
        Edge.edge("17: the greatest weight of one root", PLAIN,
                "order 0 950 0; order 0 951 0; pourFor 0 = 1003; pour 0 1003; bell 0 5 = 950; undo; pour 0 1004",
                "bell 0 5 = 949; undo; pourFor 1 = 997");
        Edge.edge("17: the pitch by the alloy of the bell",
                "buy 0 9; buy 1 1; charge 0 9; charge 1 1; set 0 0; set 1 0; set 4 0; order 0 4525 0; order 0 4530 0",
                "pourFor 0 = 8; pourFor 1 = 8",
                "order 0 4531 0; pourFor 2 = 8; pour 0 8; bell 0 3 = 125; bell 0 5 = 4531; undo; order 0 4532 0",
                "pourFor 3 = 7");
        Edge.edge("17: the tolerance does not count", PLAIN,
                "order 0 1454 500; order 0 1454 0; pourFor 0 = 264; pourFor 1 = 264; pour 0 264; bell 0 5 = 1454",
                "undo; pour 0 265; bell 0 5 = 1451");
        Edge.edge("17: the profile of the order counts", PLAIN,
                "order 0 950 0; order 1 1250 0; order 2 1550 0; order 3 1150 0; pourFor 0 = 1003; pourFor 1 = 1003",
                "pourFor 2 = 1003; pourFor 3 = 1003");
    }

    private static void promise17ByTheMeltAlone() {
        Edge.edge("17: by the melt alone, when there are 12 bells", TWELVE_BELLS,
                "order 0 1 0; melt 2 = 8740; pour 0 8323 = -3; pourFor 0 = 8323");
        Edge.edge("17: whether it cracked or not", PLAIN, "order 0 950 0; set 2 1000; set 3 0; pourFor 0 = 1003");
        Edge.edge("17: for a cancelled order", PLAIN, "order 0 950 0; cancel 0; pourFor 0 = 1003");
        Edge.edge("17: for a served order", A_BELL, "order 0 950 0; send 0 0; pourFor 0 = 1003");
        Edge.edge("17: one that is heavier than the load", PLAIN, "order 0 950 0; set 6 1; pourFor 0 = 1003");
    }

    private static void promise18Sets() {
        Edge.edge("18: no bells at all",
                "wagons 0 = 0; wagons 1 = -1; wagons -1 = -1; wagons least = -1; wagons greatest = -1");
        Edge.edge("18: one bell", A_BELL, "wagons 0 = 0; wagons 1 = 1; wagons 2 = -1; wagons 3 = -1; wagons -1 = -1");
        Edge.edge("18: INVALID_ARGUMENT if there are not so many bells", PLAIN,
                "11 x pour 0 100; wagons 2047 = 1; wagons 1024 = 1; wagons 2048 = -1; wagons 4095 = -1; pour 0 100",
                "wagons 2048 = 1");
        Edge.edge("18: twelve bells", TWELVE_BELLS,
                "wagons 4095 = 1; wagons 4096 = -1; wagons 8191 = -1; wagons 65536 = -1; wagons greatest = -1",
                "wagons 0 = 0");
        Edge.edge("18: the hundredth bell alone", PLAIN, pourAndSmash(98),
                "wagons 0 = 0; wagons 1 = -1; pour 0 10 = 99; wagons 1 = 1; wagons 2 = -1; wagons 3 = -1; smash 99; wagons 1 = -1");
        Edge.edge("18: INVALID_ARGUMENT if it is negative", TWELVE_BELLS,
                "wagons -1 = -1; wagons -4096 = -1; wagons least = -1");
        Edge.edge("18: those that are sent or smashed have no place", PLAIN,
                "set 6 500; pour 0 300; pour 0 600; pour 0 200; pour 0 700; wagons 5 = 1; wagons 2 = -2; smash 1",
                "wagons 3 = 1; wagons 4 = -2; wagons 8 = -1",
                "order 0 1395 0; send 0 0; wagons 1 = 1; wagons 2 = -2; wagons 4 = -1");
        Edge.edge("18: those that are cracked have one", A_BELL,
                "tune 0 101; wagons 1 = 1; pour 0 500; wagons 3 = 1; wagons 4 = -1");
    }

    /** From the number 0 to another one. */
    private static String pourAndSmash(int to) {
        StringBuilder calls = new StringBuilder();
        for (int bell = 0; bell <= to; bell++) {
            calls.append("pour 0 10; smash ").append(bell).append(';');
        }
        return calls.toString();
    }

    private static void promise18Load() {
        Edge.edge("18: NOT_POSSIBLE if one of them is heavier than the load", A_BELL,
                "pour 0 100; set 6 999; wagons 1 = -2; wagons 3 = -2; wagons 2 = 1; wagons 0 = 0; set 6 1000",
                "wagons 1 = 1; wagons 3 = 2");
        Edge.edge("18: the last one is heavier than the load", A_BELL,
                "pour 0 1001; set 6 1000; wagons 2 = -2; wagons 3 = -2; wagons 1 = 1");
        Edge.edge("18: by their weights then, not as poured", A_BELL,
                "tune 0 1; set 6 999; wagons 1 = 1; set 6 998; wagons 1 = -2");
        Edge.edge("18: INVALID_ARGUMENT rather than NOT_POSSIBLE", A_BELL,
                "set 6 999; wagons 1 = -2; wagons 2 = -1; wagons 3 = -1; wagons -1 = -1");
        Edge.edge("18: the least load", PLAIN,
                "set 6 1; pour 0 1; pour 0 1; pour 0 2; wagons 3 = 2; wagons 1 = 1; wagons 4 = -2; wagons 7 = -2");
        Edge.edge("18: the greatest load", FULL,
                "set 6 20000; pour 0 10000; buy 0 20000; charge 0 10500; pour 0 10000; wagons 3 = 1; charge 0 9500",
                "pour 0 1; wagons 7 = 2; wagons 5 = 1");
    }

    private static void promise18Fewest() {
        Edge.edge("18: weights together at most its load", PLAIN,
                "pour 0 600; pour 0 400; pour 0 401; set 6 1000; wagons 3 = 1; wagons 5 = 2; wagons 6 = 1",
                "wagons 7 = 2");
        Edge.edge("18: at least: not by the heaviest first", PLAIN,
                "pour 0 44; 2 x pour 0 28; 2 x pour 0 36; 2 x pour 0 28; 2 x pour 0 36; set 6 100; wagons 511 = 3",
                "set 6 99; wagons 511 = 4");
        Edge.edge("18: at least: not in their order", PLAIN,
                "pour 0 30; pour 0 60; pour 0 70; pour 0 40; set 6 100; wagons 15 = 2; wagons 3 = 1; wagons 6 = 2");
        Edge.edge("18: each in one of its own", TWELVE_BELLS,
                "set 6 199; wagons 4095 = 12; wagons 2730 = 6; set 6 200; wagons 4095 = 6; set 6 1199",
                "wagons 4095 = 2; set 6 1200; wagons 4095 = 1");
    }
}
