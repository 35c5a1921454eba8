/** The boundaries of promises 22 to 25, sentence by sentence. */
final class FramesEdgesTest {
    private static final String PLAIN = "buy 0 8000; charge 0 8000; buy 1 2000; charge 1 2000; set 0 0; set 1 0";
    /** Bells of 10, 20, .. 120 pounds. */
    private static final String TWELVE_BELLS = PLAIN + "; pour 0 10; pour 0 20; pour 0 30; pour 0 40; pour 0 50; pour 0 60"
            + "; pour 0 70; pour 0 80; pour 0 90; pour 0 100; pour 0 110; pour 0 120";
    private static final String GOOD = "fault 0 = -4; fault 1 = -4";

    private FramesEdgesTest() {
    }

    public static void main(String[] args) {
        promise22();
        promise23();
        promise24Arguments();
        promise24EndsTooEarly();
        promise24WhatStandsFirst();
        promise24WhatStandsBehind();
        promise24Digits();
        promise24Depth();
        promise24OtherSigns();
        promise24Bells();
        promise24OneOfSeveral();
        promise24HundredBells();
        promise25Arguments();
        promise25WeightsAndNumbers();
        promise25Depth();
        promise25Slant();
        promise25Level();
        promise25LevelInWholePounds();
        Due.end();
    }

    private static void promise22() {
        Edge.edge("22: character: 32 to 126",
                "type 31 = -1; type 32 = 1; type 126 = 2; type 127 = -1; type -1 = -1; type 0 = -1; type least = -1",
                "type greatest = -1; count 9 = 2");
        Edge.edge("22: character: none that has the low bits of one",
                "type 296 = -1; type 65576 = -1; type 65536 = -1; type -216 = -1; count 9 = 0");
        Edge.edge("22: each character from 32 to 126 is taken", allCharacters(32, 91), "type 92 = -3; clearText = 60",
                allCharacters(92, 126), "count 9 = 35");
        Edge.edge("22: LIMIT_REACHED if it has 60 characters",
                "59 x type 40; type 40 = 60; type 40 = -3; type 126 = -3; count 9 = 60");
        Edge.edge("22: INVALID_ARGUMENT rather than LIMIT_REACHED",
                "60 x type 40; type 31 = -1; type 127 = -1; type least = -1; type greatest = -1; type 40 = -3");
        Edge.edge("22: when it is emptied there is room again",
                "60 x type 40; type 40 = -3; clearText = 60; type 48 = 1; 59 x type 40; type 40 = -3");
        Edge.edge("22: appends a character behind the others", TWELVE_BELLS, "write 1", "frame 0 = 20; write 1",
                "frame 0 = 120; write 1", "fault 0 = 2");
    }

    private static String allCharacters(int from, int to) {
        StringBuilder calls = new StringBuilder();
        for (int character = from; character <= to; character++) {
            calls.append("type ").append(character).append(" = ").append(character - from + 1).append(';');
        }
        return calls.toString();
    }

    private static void promise23() {
        Edge.edge("23: an empty text", "clearText = 0; clearText = 0; count 9 = 0");
        Edge.edge("23: a text of one character", "type 40; clearText = 1; clearText = 0");
        Edge.edge("23: a full text",
                "60 x type 40; clearText = 60; count 9 = 0; fault 0 = 0; fault 1 = 4; clearText = 0");
        Edge.edge("23: nothing of it is left", TWELVE_BELLS, "write (0,1)", "clearText = 5; write 2", GOOD,
                "frame 0 = 30; frame 2 = 0; clearText = 1; write (0", "fault 0 = 2; fault 1 = 4");
    }

    private static void promise24Arguments() {
        Edge.edge("24: what: 0 and 1",
                "fault -1 = -1; fault 0 = 0; fault 1 = 4; fault 2 = -1; fault least = -1; fault greatest = -1");
        Edge.edge("24: NOT_FOUND if the text has no fault", TWELVE_BELLS, "write 0",
                "fault 0 = -4; fault 1 = -4; write x", "fault 0 = 1; fault 1 = 1");
        Edge.edge("24: INVALID_ARGUMENT rather than NOT_FOUND", TWELVE_BELLS, "write 0",
                "fault -1 = -1; fault 2 = -1; fault least = -1; fault greatest = -1");
    }

    /** The text, and where and why it is at fault. */
    private static void fault(String sentence, String text, int position, int reason) {
        Edge.edge("24: " + sentence + ": " + text, TWELVE_BELLS, "write " + text,
                "fault 0 = " + position + "; fault 1 = " + reason + "; frame 0 = -2; frame 5 = -2");
    }

    private static void good(String sentence, String text) {
        Edge.edge("24: " + sentence + ": " + text, TWELVE_BELLS, "write " + text, GOOD);
    }

    private static void promise24EndsTooEarly() {
        Edge.edge("24: an empty text ends too early", "fault 0 = 0; fault 1 = 4; frame 0 = -2");
        fault("behind a beam's sign", "(", 1, 4);
        fault("behind its first frame", "(0", 2, 4);
        fault("behind a first frame of two digits", "(10", 3, 4);
        fault("behind its comma", "(0,", 3, 4);
        fault("behind its second frame", "(0,1", 4, 4);
        fault("behind a second frame of two digits", "(0,11", 5, 4);
        fault("behind a beam in a beam", "((0,1)", 6, 4);
        fault("behind five signs of beams", "(((((", 5, 4);
        fault("behind the last but one sign", "(((((0,1),2),3),4),5", 20, 4);
        good("none is missing", "(((((0,1),2),3),4),5)");
    }

    private static void promise24WhatStandsFirst() {
        fault("cannot stand there, where a frame begins", ")", 0, 1);
        fault("cannot stand there, where a frame begins", ",", 0, 1);
        fault("cannot stand there, where a first frame begins", "(,1)", 1, 1);
        fault("cannot stand there, where a first frame begins", "()", 1, 1);
        fault("cannot stand there, where a second frame begins", "(0,)", 3, 1);
        fault("cannot stand there, where a second frame begins", "(0,,1)", 3, 1);
        fault("cannot stand there, deep in it", "((0,1),(2,)", 10, 1);
    }

    private static void promise24WhatStandsBehind() {
        fault("cannot stand there, behind a bell alone", "0)", 1, 1);
        fault("cannot stand there, behind a bell alone", "0,", 1, 1);
        fault("cannot stand there, behind a bell alone", "0(", 1, 1);
        fault("cannot stand there, behind a bell of two digits alone", "11,", 2, 1);
        fault("cannot stand there, behind a first frame", "(0)", 2, 1);
        fault("cannot stand there, behind a first frame", "(0(", 2, 1);
        fault("cannot stand there, behind a first frame that is a beam", "((0,1)2", 6, 1);
        fault("cannot stand there, behind a first frame that is a beam", "((0,1))", 6, 1);
        fault("cannot stand there, behind a second frame", "(0,1,2)", 4, 1);
        fault("cannot stand there, behind a second frame", "(0,1(", 4, 1);
        fault("cannot stand there, behind a second frame that is a beam", "(0,(1,2),", 8, 1);
        fault("cannot stand there, behind a beam alone", "(0,1))", 5, 1);
        fault("cannot stand there, behind a beam alone", "(0,1)2", 5, 1);
        fault("cannot stand there, behind a beam alone", "(0,1)11", 5, 1);
        fault("cannot stand there, behind a beam alone", "(0,1),", 5, 1);
        fault("cannot stand there, behind a beam alone", "(0,1)(", 5, 1);
    }

    private static void promise24Digits() {
        good("one digit", "0");
        good("one digit", "9");
        good("two digits", "10");
        good("two digits", "11");
        good("two digits where there are two, the first one 0", "00");
        good("two digits where there are two, the first one 0", "09");
        good("one digit and two", "(1,10)");
        fault("two digits where there are two", "12", 0, 2);
        fault("a third digit", "000", 2, 1);
        fault("a third digit", "111", 2, 1);
        fault("a third and a fourth digit", "1011", 2, 1);
        fault("a third digit in a beam", "(101,2)", 3, 1);
        fault("a third digit in the second frame", "(1,000)", 5, 1);
        fault("two digits that are no bell's number, ahead of a third one", "120", 0, 2);
        fault("digits parted by a space", "1 1", 1, 1);
    }

    private static void promise24Depth() {
        good("beams lie in one another 5 deep, on the left", "(((((0,1),2),3),4),5)");
        good("beams lie in one another 5 deep, on the right", "(0,(1,(2,(3,(4,5)))))");
        good("beams lie in one another 5 deep, in the midst", "(0,((1,(2,(3,4))),5))");
        fault("the \"(\" of a sixth beam on the left", "((((((0,1),2),3),4),5),6)", 5, 1);
        fault("the \"(\" of a sixth beam on the right", "(0,(1,(2,(3,(4,(5,6))))))", 15, 1);
        fault("the \"(\" of a sixth beam, ahead of the end", "((((((", 5, 1);
        good("more than five beams that do not lie in one another so deep", "(((0,1),(2,3)),((4,5),(6,7)))");
        good("behind five closed beams another one", "((((0,1),2),3),((4,5),6))");
        good("five deep twice", "(((((0,1),2),3),4),((((5,6),7),8),9))");
        fault("six deep at the second time", "(((((0,1),2),3),4),(((((5,6),7),8),9),10))", 23, 1);
    }

    private static void promise24OtherSigns() {
        for (int character = 32; character <= 126; character++) {
            boolean digit = character >= '0' && character <= '9';
            String type = "type " + character;
            if (!digit && character != '(') {
                Edge.edge("24: a character that cannot stand at first: " + (char) character, TWELVE_BELLS, type,
                        "fault 0 = 0; fault 1 = 1; frame 0 = -2");
            }
            if (!digit && character != ',') {
                Edge.edge("24: a character that cannot stand behind a first frame: " + (char) character, TWELVE_BELLS,
                        "write (1", type, "fault 0 = 2; fault 1 = 1");
            }
            if (!digit && character != ')') {
                Edge.edge("24: a character that cannot stand behind a second frame: " + (char) character, TWELVE_BELLS,
                        "write (0,1", type, "fault 0 = 4; fault 1 = 1");
            }
            if (digit) {
                Edge.edge("24: a digit is a bell: " + (char) character, TWELVE_BELLS, type, GOOD);
            }
        }
    }

    private static void promise24Bells() {
        fault("the number of a bell that has not been poured", "12", 0, 2);
        fault("the number of a bell that has not been poured", "(0,99)", 3, 2);
        fault("the number of a bell that has not been poured, deep in it", "((0,1),(2,12))", 10, 2);
        Edge.edge("24: the number of a bell, when none has been poured", "write 0",
                "fault 0 = 0; fault 1 = 2; clearText; write 99", "fault 0 = 0; fault 1 = 2");
        Edge.edge("24: the bell has just been poured", PLAIN, "write (0,1)",
                "fault 0 = 1; fault 1 = 2; pour 0 10; fault 0 = 3; fault 1 = 2; pour 0 10; " + GOOD);
        Edge.edge("24: the bell is smashed", TWELVE_BELLS, "write (3,11)", GOOD,
                "smash 11; fault 0 = 3; fault 1 = 2; smash 3; fault 0 = 1; fault 1 = 2; undo; fault 0 = 3");
        Edge.edge("24: the bell is sent", TWELVE_BELLS, "write (3,10)",
                "pour 0 10 = -3; smash 11; pour 0 1000 = 12; order 0 950 0; " + GOOD + "; clearText; write (3,12)",
                GOOD + "; send 12 0; fault 0 = 3; fault 1 = 2; undo; " + GOOD);
        Edge.edge("24: the bell is cracked, which is no fault", TWELVE_BELLS, "tune 9 11; bell 9 8 = 1; write 9", GOOD);
        fault("this bell hangs in the frame already", "(0,0)", 3, 3);
        fault("this bell hangs in the frame already, with two digits", "(0,00)", 3, 3);
        fault("this bell hangs in the frame already, with one digit", "(07,7)", 4, 3);
        fault("this bell hangs in the frame already, in another beam", "((0,1),(2,0))", 10, 3);
        fault("this bell hangs in the frame already, with the last number", "(11,11)", 4, 3);
        Edge.edge("24: a bell that hung in another text hangs no more", TWELVE_BELLS, "write (0,1)", GOOD,
                "clearText; write (1,0)", GOOD + "; " + GOOD);
    }

    private static void promise24OneOfSeveral() {
        fault("the first part that is not possible", "(0,0),12", 3, 3);
        fault("the first part that is not possible", "(12,0(", 1, 2);
        fault("the first part that is not possible", "(0,1)12", 5, 1);
        fault("a number that cannot stand there and is no bell's: it cannot stand there", "(0,1)99", 5, 1);
        fault("a number that cannot stand there and hangs already: it cannot stand there", "(0,1)0", 5, 1);
        fault("no bell ahead of the end of the text", "(12", 1, 2);
        fault("hanging already ahead of the end of the text", "(0,0", 3, 3);
        Edge.edge("24: smashed and hanging already: it is smashed", TWELVE_BELLS, "smash 0; write (0,0)",
                "fault 0 = 1; fault 1 = 2");
    }

    private static void promise24HundredBells() {
        StringBuilder calls = new StringBuilder();
        for (int bell = 0; bell < 99; bell++) {
            calls.append("pour 0 10; smash ").append(bell).append(';');
        }
        Edge.edge("24: the last number of a bell", PLAIN, "write 99", calls.toString(),
                "fault 0 = 0; fault 1 = 2; pour 0 10 = 99; " + GOOD + "; frame 0 = 10; frame 1 = 1; clearText; write 98",
                "fault 0 = 0; fault 1 = 2; clearText; write (99,99)", "fault 0 = 4; fault 1 = 3");
    }

    private static void promise25Arguments() {
        Edge.edge("25: what: 0 to 5", TWELVE_BELLS, "write (0,1)",
                "frame -1 = -1; frame 0 = 30; frame 5 = 10; frame 6 = -1; frame least = -1; frame greatest = -1");
        Edge.edge("25: NOT_POSSIBLE if the text has a fault", TWELVE_BELLS, "write (0,1",
                "frame 0 = -2; frame 1 = -2; frame 2 = -2; frame 3 = -2; frame 4 = -2; frame 5 = -2; write )",
                "frame 0 = 30; write )", "frame 0 = -2");
        Edge.edge("25: NOT_POSSIBLE for an empty text",
                "frame 0 = -2; frame 1 = -2; frame 2 = -2; frame 3 = -2; frame 4 = -2; frame 5 = -2");
        Edge.edge("25: INVALID_ARGUMENT rather than NOT_POSSIBLE",
                "frame -1 = -1; frame 6 = -1; frame least = -1; frame greatest = -1; frame 0 = -2");
        Edge.edge("25: NOT_POSSIBLE when a bell of it is smashed", TWELVE_BELLS, "write (0,1)",
                "frame 0 = 30; smash 1; frame 0 = -2; undo; frame 0 = 30");
    }

    /** The text, and the six answers of frame. */
    private static void frame(String sentence, String text, int... due) {
        StringBuilder calls = new StringBuilder();
        for (int what = 0; what <= 5; what++) {
            calls.append("frame ").append(what).append(" = ").append(due[what]).append(';');
        }
        Edge.edge("25: " + sentence + ": " + text, TWELVE_BELLS, "write " + text, calls.toString());
    }

    private static void promise25WeightsAndNumbers() {
        frame("a bell alone", "0", 10, 1, 0, 0, 0, 0);
        frame("the last bell alone", "11", 120, 1, 0, 0, 0, 0);
        frame("one beam", "(0,11)", 130, 2, 1, 1, 110, 110);
        frame("all twelve bells", "(((0,1),(2,3)),(((4,5),(6,7)),((8,9),(10,11))))", 780, 12, 11, 4, 580, 1140);
        Edge.edge("25: its weight is that of the bells then", TWELVE_BELLS, "write (0,1)",
                "frame 0 = 30; tune 1 1; frame 0 = 29; frame 4 = 9; frame 5 = 9; undo; frame 0 = 30");
        Edge.edge("25: the lightest bells", PLAIN, "pour 0 1; pour 0 1; write (0,1)",
                "frame 0 = 2; frame 4 = 0; frame 5 = 0");
        Edge.edge("25: the heaviest bell", "buy 0 20000; charge 0 20000; set 0 0; pour 0 10000; pour 0 1; write (0,1)",
                "frame 0 = 10001; frame 4 = 9999; frame 5 = 9999");
    }

    private static void promise25Depth() {
        frame("no beam", "5", 60, 1, 0, 0, 0, 0);
        frame("beams 1 deep", "(5,6)", 130, 2, 1, 1, 10, 10);
        frame("beams 2 deep", "((0,1),(2,3))", 100, 4, 3, 2, 40, 60);
        frame("beams 5 deep on the left", "(((((0,1),2),3),4),5)", 210, 6, 5, 5, 90, 430);
        Edge.edge("25: as deep as the beams of this text, not of one ahead of it", TWELVE_BELLS, "write (0,(1,(2,3)))",
                "frame 1 = 4; frame 2 = 3; frame 3 = 3; frame 4 = 80; frame 5 = 220; clearText; write (0,1)",
                "frame 1 = 2; frame 2 = 1; frame 3 = 1; frame 4 = 10; frame 5 = 10; clearText; write 2",
                "frame 1 = 1; frame 2 = 0; frame 3 = 0; frame 4 = 0; frame 5 = 0");
        frame("beams 5 deep on the right", "(0,(1,(2,(3,(4,5)))))", 210, 6, 5, 5, 190, 1710);
    }

    private static void promise25Slant() {
        frame("the heavier one on the left", "(3,0)", 50, 2, 1, 1, 30, 30);
        frame("the heavier one on the right", "(0,3)", 50, 2, 1, 1, 30, 30);
        frame("no slant in the outer beam, one in the inner", "((0,2),3)", 80, 3, 2, 2, 20, 40);
        frame("the greatest one in the first inner beam", "((0,8),(3,5))", 200, 4, 3, 2, 80, 160);
        frame("the greatest one in the second inner beam", "((3,5),(0,8))", 200, 4, 3, 2, 80, 160);
        frame("the greatest one in the outer beam", "(11,(0,1))", 150, 3, 2, 2, 90, 90);
        Edge.edge("25: no beam has a slant", PLAIN,
                "pour 0 100; pour 0 100; pour 0 200; pour 0 400; write (((0,1),2),3)",
                "frame 0 = 800; frame 4 = 0; frame 5 = 0");
    }

    private static void promise25Level() {
        frame("nothing is added to a bell alone", "11", 120, 1, 0, 0, 0, 0);
        frame("added to the lighter one", "(1,4)", 70, 2, 1, 1, 30, 30);
        frame("added to both of an inner beam", "((0,1),9)", 130, 3, 2, 2, 70, 70);
        frame("added to all", "((0,1),(2,3))", 100, 4, 3, 2, 40, 60);
        frame("added to the outer one", "((9,10),0)", 220, 3, 2, 2, 200, 220);
    }

    /** What hangs in beams that lie so deep must be one that can be halved so often. */
    private static void promise25LevelInWholePounds() {
        String odd = PLAIN + "; pour 0 1; pour 0 3; pour 0 101; pour 0 7; pour 0 6; pour 0 5";
        Edge.edge("25: in whole pounds: one beam needs no even weights", odd, "write (0,2)",
                "frame 0 = 102; frame 5 = 100");
        Edge.edge("25: in whole pounds: 101 against two bells, which are even together", odd, "write (2,(0,1))",
                "frame 0 = 105; frame 4 = 97; frame 5 = 99");
        Edge.edge("25: in whole pounds: 101 against beams 2 deep, by fours", odd, "write (2,((0,1),3))",
                "frame 0 = 112; frame 4 = 90; frame 5 = 96");
        Edge.edge("25: in whole pounds: 6 and the 6 of two bells", odd, "write ((0,1),4)", "frame 0 = 10; frame 5 = 2");
        Edge.edge("25: in whole pounds: 7 and the 6 of two bells", odd, "write ((0,1),3)", "frame 0 = 11; frame 5 = 5");
        Edge.edge("25: in whole pounds: 101 against beams 4 deep, by sixteens", odd, "write (2,((((0,1),3),4),5))",
                "frame 0 = 123; frame 5 = 101");
    }
}
