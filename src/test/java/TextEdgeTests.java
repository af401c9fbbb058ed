/** Promises 1 to 5: each sentence that names a boundary of a new object, of THE TEXT, its FAULT and its laying. */
public final class TextEdgeTests extends Edges {
    private static final String NINE = "r000;r000;r000;";
    private static final String EIGHT_BEASTS = "b0,0,0;b1,0,1;b2,0,2;b3,0,3;b0,1,4;b1,1,5;b2,1,6;b3,1,7;";

    public static void main(String[] args) {
        run(TextEdgeTests.class);
    }

    // ---- promise 1: a new object

    static void promise01_theTextIsEmpty() {
        SheepChess g = new SheepChess();
        due(g.count(12), 0);
        due(g.fault(), NONE);
        due(g.lay(), NO);
        due(g.wipe(), 0);
        due(g.write('r'), 1);
    }

    static void promise01_squaresAreAsTold() {
        SheepChess g = new SheepChess();
        due(g.count(0), 25);
        due(g.count(1), 5);
        due(g.count(8), 22);
        String grass = "0120330092004102900000130";
        for (int x = 0; x < 25; x++) {
            due(g.square(x, 0), grass.charAt(x) - '0');
        }
    }

    static void promise01_beastsAreAsTold() {
        SheepChess g = new SheepChess();
        int[] places = {22, 20, 21, 24, 2, 4, 1, 0};
        due(g.count(2), 8);
        for (int b = 0; b < 8; b++) {
            due(g.beast(b, 0), b % 4);
            due(g.beast(b, 1), b / 4);
            due(g.beast(b, 2), places[b]);
        }
        due(g.count(4), 4);
        due(g.count(5), 4);
        due(g.count(6), 100);
        due(g.count(7), 0);
    }

    static void promise01_itIsDay0AndNobodyIsHungry() {
        SheepChess g = new SheepChess();
        due(g.count(3), 0);
        for (int b = 0; b < 8; b++) {
            due(g.beast(b, 3), 0);
        }
        due(g.drive(4, SOUTH), NO);
        due(g.drive(0, NORTH), 12);
    }

    static void promise01_nothingCanBeUndone() {
        SheepChess g = new SheepChess();
        due(g.count(10), 0);
        due(g.undo(), NO);
    }

    static void promise01_nothingIsKept() {
        SheepChess g = new SheepChess();
        due(g.count(11), 0);
        due(g.back(), NO);
        due(g.keep(), 1);
    }

    static void promise01_beastsBearThreeDays() {
        SheepChess g = new SheepChess();
        due(g.count(9), 3);
        due(g.starves(3), 4);
    }

    /** The king is driven to the grass, that it may not starve; on day 3 the ram stops on the well, ahead of the other. */
    static void promise01_theWellIsOn7() {
        SheepChess g = new SheepChess();
        due(g.summer(1, -1), NONE);
        due(g.drive(0, NORTH), 12);
        due(g.summer(1, -1), 3);
        due(g.summer(1, 0), 72);
        due(g.summer(1, 1), 42);
        due(g.summer(1, 2), NONE);
        due(g.drive(7, SOUTH), 5);
        rest(g, 1);
        due(g.drive(4, SOUTH), 7);
        due(g.summer(1, -1), 0);
    }

    static void promise01_itSnowsOnTheFourthDayAlone() {
        SheepChess g = new SheepChess();
        due(g.drive(0, NORTH), 12);
        due(g.takes(4, SOUTH), 0);
        due(g.drive(7, SOUTH), 5);
        due(g.takes(4, SOUTH), 0);
        due(g.drive(3, WEST), 23);
        due(g.takes(4, SOUTH), NONE);
        due(g.goes(4, SOUTH), 7);
        rest(g, 1);
        due(g.takes(4, SOUTH), 0);
    }

    static void promise01_eachObjectIsItsOwn() {
        SheepChess one = new SheepChess();
        String fresh = all(one);
        SheepChess other = new SheepChess();
        other.write('r');
        other.drive(0, NORTH);
        other.keep();
        due(all(one), fresh);
        due(all(new SheepChess()), fresh);
    }

    // ---- promise 2: write

    static void promise02_below32IsBad() {
        SheepChess g = new SheepChess();
        for (int letter : new int[] {31, 13, 10, 0, -1, -32, Integer.MIN_VALUE}) {
            due(g.write(letter), BAD);
        }
        due(g.count(12), 0);
    }

    static void promise02_above126IsBad() {
        SheepChess g = new SheepChess();
        for (int letter : new int[] {127, 128, 255, 256 + 'r', 65536 + 'r', Integer.MAX_VALUE}) {
            due(g.write(letter), BAD);
        }
        due(g.count(12), 0);
    }

    static void promise02_32IsALetter() {
        due(new SheepChess().write(32), 1);
    }

    static void promise02_126IsALetter() {
        due(new SheepChess().write(126), 1);
    }

    static void promise02_itComesBehindTheText() {
        SheepChess g = new SheepChess();
        write(g, "r0;");
        due(g.fault(), NONE);
        due(g.write('x'), 4);
        due(g.fault(), 3);
    }

    static void promise02_the200thLetterIsThere() {
        SheepChess g = new SheepChess();
        for (int i = 1; i <= 200; i++) {
            due(g.write("h01;".charAt((i - 1) % 4)), i);
        }
        due(g.count(12), 200);
        due(g.fault(), NONE);
    }

    static void promise02_the201stLetterIsTooMany() {
        SheepChess g = new SheepChess();
        write(g, "h01;".repeat(50));
        stays(g, () -> g.write('x'), FULL);
        due(g.fault(), NONE);
        due(g.wipe(), 200);
    }

    static void promise02_badComesAheadOfFull() {
        SheepChess g = new SheepChess();
        write(g, "h01;".repeat(50));
        stays(g, () -> g.write(127), BAD);
        due(g.write(31), BAD);
    }

    static void promise02_badChangesNothing() {
        SheepChess g = laid("r12;b1,0,0;");
        write(g, "r0;");
        stays(g, () -> g.write(31), BAD);
        stays(g, () -> g.write(127), BAD);
        due(g.fault(), NONE);
    }

    static void promise02_aWipedTextHasRoomAgain() {
        SheepChess g = new SheepChess();
        write(g, "h01;".repeat(50));
        due(g.wipe(), 200);
        due(g.write('h'), 1);
    }

    static void promise02_theMeadowStays() {
        SheepChess g = laid("r12;b1,0,0;");
        String before = meadow(g);
        write(g, "r00;b0,0,0;");
        due(meadow(g), before);
    }

    // ---- promise 3: wipe

    static void promise03_anEmptyTextIs0Long() {
        SheepChess g = new SheepChess();
        stays(g, g::wipe, 0);
    }

    static void promise03_itAnswersHowLongItWas() {
        SheepChess g = new SheepChess();
        g.write('r');
        due(g.wipe(), 1);
        due(g.wipe(), 0);
    }

    static void promise03_aFullTextIs200Long() {
        SheepChess g = new SheepChess();
        write(g, "h01;".repeat(50));
        due(g.wipe(), 200);
        due(g.count(12), 0);
    }

    static void promise03_theTextIsEmptyThen() {
        SheepChess g = new SheepChess();
        write(g, "x");
        due(g.fault(), 0);
        g.wipe();
        due(g.fault(), NONE);
        write(g, "r0;b0,0,0;");
        g.wipe();
        due(g.lay(), NO);
    }

    static void promise03_theMeadowStays() {
        SheepChess g = laid("r12;b1,0,0;");
        g.rest();
        g.keep();
        write(g, "r00;");
        String before = meadow(g);
        due(g.wipe(), 4);
        due(meadow(g), before);
        due(g.count(10), 1);
        due(g.count(11), 1);
    }

    // ---- promise 4: fault

    static void promise04_anEmptyTextHasNone() {
        due(faultOf(""), NONE);
    }

    static void promise04_aTextWithoutBeastHasNone() {
        due(faultOf("r0;"), NONE);
        due(faultOf("h3;"), NONE);
    }

    static void promise04_itIsThePlaceOfTheItemsFirstLetter() {
        due(faultOf("r0x;"), 0);
        due(faultOf("r00;r0x;"), 4);
        due(faultOf("r00;b0,0,9;"), 4);
        due(faultOf("r00;h1;b0,0,1;w7;"), 14);
    }

    static void promise04_itIsTheFirstOfSeveral() {
        due(faultOf("r00;h0;s2;x;"), 4);
        due(faultOf("s2;h0;"), 0);
    }

    static void promise04_itChangesNothing() {
        SheepChess g = laid("r12;b1,0,0;");
        g.rest();
        g.keep();
        write(g, "r000;w2;h9;s1;b3,1,2;x");
        stays(g, g::fault, 21);
        due(g.fault(), 21);
        due(g.summer(0, -1), NO);
    }

    static void promise04_anItemBeginsWithALetterThatIsTold() {
        for (String text : new String[] {"x0;", "R0;", "B0,0,0;", " r0;", "0;", ";", ",", "a", "~", " ", "q0;", "t0;", "c0;"}) {
            due(faultOf(text), 0);
            due(faultOf("r0;" + text), 3);
        }
    }

    static void promise04_aSemicolonIsBehindEachItem() {
        due(faultOf("r0"), 0);
        due(faultOf("h4;r00"), 3);
        due(faultOf("r00;b0,0,1"), 4);
        due(faultOf("r00;w1"), 4);
        due(faultOf("h1"), 0);
        due(faultOf("s1"), 0);
        due(faultOf("r00,r00;"), 0);
        due(faultOf("h1 ;"), 0);
        due(faultOf("h1:"), 0);
        due(faultOf("h1;;"), 3);
        due(faultOf("r0; r0;"), 3);
    }

    static void promise04_aLetterAloneIsNoItem() {
        for (String text : new String[] {"r", "b", "w", "h", "s", "r;", "b;", "w;", "h;", "s;"}) {
            due(faultOf(text), 0);
            due(faultOf("r0;" + text), 3);
        }
    }

    static void promise04_aTextCutAt200IsFaultyThere() {
        due(faultOf("h1;".repeat(66) + "h1"), 198);
        due(faultOf("h01;".repeat(50)), NONE);
    }

    static void promise04_aRowHasASquareAtLeast() {
        due(faultOf("r;"), 0);
        due(faultOf("r0;"), NONE);
    }

    static void promise04_aRowHasSixSquaresAtMost() {
        due(faultOf("r000000;"), NONE);
        due(faultOf("r0000000;"), 0);
        due(faultOf("r00000000;"), 0);
    }

    static void promise04_aRowHasAsManyAsTheFirst() {
        due(faultOf("r00;r00;r00;"), NONE);
        due(faultOf("r00;r0;"), 4);
        due(faultOf("r00;r000;"), 4);
        due(faultOf("r000000;r00000;"), 8);
        due(faultOf("r00000;r000000;"), 7);
        due(faultOf("r00;r00;r0;"), 8);
    }

    static void promise04_thereAreSixRowsAtMost() {
        due(faultOf("r0;".repeat(6)), NONE);
        due(faultOf("r0;".repeat(7)), 18);
        due(faultOf("r000000;".repeat(6)), NONE);
        due(faultOf("r000000;".repeat(7)), 48);
    }

    static void promise04_aRowIsSingleFigures() {
        due(faultOf("r012345;r678900;"), NONE);
        due(faultOf("r0,1;"), 0);
        due(faultOf("r0 1;"), 0);
        due(faultOf("r-1;"), 0);
        due(faultOf("r0a;"), 0);
        due(faultOf("r0/;"), 0);
        due(faultOf("r0:;"), 0);
    }

    static void promise04_aNumberIsOneOrTwoFigures() {
        due(faultOf("r00;b00,00,01;w01;h09;s01;"), NONE);
        due(faultOf("r00;b000,0,1;"), 4);
        due(faultOf("r00;b0,000,1;"), 4);
        due(faultOf("r00;b0,0,001;"), 4);
        due(faultOf("r00;w001;"), 4);
        due(faultOf("h009;"), 0);
        due(faultOf("s001;"), 0);
    }

    static void promise04_aNumberIsFiguresAlone() {
        due(faultOf("r00;b-0,0,1;"), 4);
        due(faultOf("r00;b0,+1,1;"), 4);
        due(faultOf("r00;b0,0,a;"), 4);
        due(faultOf("r00;w 1;"), 4);
        due(faultOf("hx;"), 0);
        due(faultOf("h/;"), 0);
        due(faultOf("h1:;"), 0);
        due(faultOf("s-;"), 0);
    }

    static void promise04_aBeastIsThreeNumbersPartedByCommas() {
        due(faultOf("r00;b0,0,1;"), NONE);
        for (String beast : new String[] {"b0,0;", "b0;", "b0,0,1,0;", "b0,0,1,;", "b,0,1;", "b0,,1;", "b0,0,;", "b0;0;1;",
            "b0.0,1;", "b0,0.1;", "b0 0 1;", "b001;", "b,0,0,1;", "b0, 0,1;"}) {
            due(faultOf("r00;" + beast), 4);
        }
    }

    static void promise04_aWellIsOneNumber() {
        due(faultOf("r00;w0,1;"), 4);
        due(faultOf("r00;w,0;"), 4);
        due(faultOf("h1,2;"), 0);
        due(faultOf("s0,1;"), 0);
        due(faultOf("s;"), 0);
    }

    static void promise04_kindsAre0To3() {
        due(faultOf("r0000;b0,0,0;b1,0,1;b2,0,2;b3,0,3;"), NONE);
        due(faultOf("r00;b4,0,0;"), 4);
        due(faultOf("r00;b10,0,0;"), 4);
    }

    static void promise04_villagesAre0And1() {
        due(faultOf("r00;b0,0,0;b0,1,1;"), NONE);
        due(faultOf("r00;b0,2,0;"), 4);
        due(faultOf("r00;b0,10,0;"), 4);
    }

    static void promise04_aBeastsSquareIsToldAhead() {
        due(faultOf("r00;b0,0,1;"), NONE);
        due(faultOf("r00;b0,0,2;"), 4);
        due(faultOf("r00;b0,0,2;r00;"), 4);
        due(faultOf("r00;r00;b0,0,2;"), NONE);
        due(faultOf("b0,0,0;r00;"), 0);
        due(faultOf("b0,0,0;"), 0);
        due(faultOf("r000000;".repeat(6) + "b0,0,35;"), NONE);
        due(faultOf("r000000;".repeat(6) + "b0,0,36;"), 48);
    }

    static void promise04_aBeastIsOnNoBog() {
        due(faultOf("r098;b0,0,1;"), 5);
        due(faultOf("r098;b0,0,0;b0,0,2;"), NONE);
    }

    static void promise04_aBeastIsOnNoBeast() {
        due(faultOf("r00;b0,0,1;b1,0,1;"), 11);
        due(faultOf("r00;b0,0,1;b1,1,1;"), 11);
        due(faultOf("r00;b0,0,1;b1,1,0;b2,0,01;"), 18);
    }

    static void promise04_thereAreEightBeastsAtMost() {
        due(faultOf(NINE + EIGHT_BEASTS), NONE);
        due(faultOf(NINE + EIGHT_BEASTS + "b0,0,8;"), 71);
        due(faultOf(NINE + EIGHT_BEASTS + "w8;"), NONE);
    }

    static void promise04_aWellsSquareIsToldAhead() {
        due(faultOf("r00;w1;"), NONE);
        due(faultOf("r00;w2;"), 4);
        due(faultOf("r00;w2;r00;"), 4);
        due(faultOf("r00;r00;w2;"), NONE);
        due(faultOf("w0;r00;"), 0);
        due(faultOf("r000000;".repeat(6) + "w35;"), NONE);
        due(faultOf("r000000;".repeat(6) + "w36;"), 48);
    }

    static void promise04_aWellIsOnNoBog() {
        due(faultOf("r098;w1;"), 5);
        due(faultOf("r098;w2;w0;"), NONE);
        due(faultOf("r098;w0;w1;"), 8);
        due(faultOf("r098;w1;w0;"), 5);
    }

    static void promise04_aWellMayBeUnderABeastAndToldAgain() {
        due(faultOf("r00;b0,0,1;w1;w1;w0;w1;"), NONE);
        due(faultOf("r00;w1;b0,0,1;"), NONE);
    }

    static void promise04_hungerIs1To9() {
        for (int h = 1; h <= 9; h++) {
            due(faultOf("h" + h + ";"), NONE);
        }
        due(faultOf("h0;"), 0);
        due(faultOf("h00;"), 0);
        due(faultOf("h10;"), 0);
        due(faultOf("h99;"), 0);
        due(faultOf("h1;h0;"), 3);
    }

    static void promise04_hungerMayBeToldAgain() {
        due(faultOf("h1;h9;h1;h1;h1;h1;h1;h1;h1;h1;h1;"), NONE);
    }

    static void promise04_snowIs0Or1() {
        due(faultOf("s0;s1;s00;s01;"), NONE);
        due(faultOf("s2;"), 0);
        due(faultOf("s9;"), 0);
        due(faultOf("s10;"), 0);
        due(faultOf("s0;s11;"), 3);
    }

    static void promise04_thereAreNineSnowsAtMost() {
        due(faultOf("s0;".repeat(9)), NONE);
        due(faultOf("s0;".repeat(9) + "h1;"), NONE);
        due(faultOf("s0;".repeat(10)), 27);
        due(faultOf("s1;".repeat(9) + "s0;"), 27);
    }

    static void promise04_itemsComeInAnyOrder() {
        due(faultOf("h3;s1;r00;w1;b0,0,0;r00;b1,1,3;w2;s0;h2;"), NONE);
    }

    // ---- promise 5: lay

    static void promise05_anEmptyTextIsNotLaid() {
        SheepChess g = new SheepChess();
        stays(g, g::lay, NO);
    }

    static void promise05_aTextWithoutBeastIsNotLaid() {
        SheepChess g = new SheepChess();
        write(g, "r000;w1;h2;s1;");
        stays(g, g::lay, NO);
        write(g, "b1,0,2;");
        due(g.lay(), 1);
    }

    static void promise05_aTextWithAFaultIsNotLaid() {
        SheepChess g = new SheepChess();
        write(g, "r12;b1,0,0;b1,1,1;w1;h7;x");
        stays(g, g::lay, NO);
        due(g.summer(0, -1), NONE);
    }

    static void promise05_aRefusedLayLeavesWhatIsUndoneAndKept() {
        SheepChess g = laid("r12;b1,0,0;h6;");
        g.rest();
        g.keep();
        g.rest();
        write(g, "r000;b0,0,3;");
        stays(g, g::lay, NO);
        due(g.undo(), 1);
        due(g.back(), 0);
        due(g.count(9), 6);
    }

    static void promise05_itAnswersHowManyBeasts() {
        SheepChess one = new SheepChess();
        write(one, "r0;b0,0,0;");
        due(one.lay(), 1);
        SheepChess eight = new SheepChess();
        write(eight, NINE + EIGHT_BEASTS);
        due(eight.lay(), 8);
    }

    static void promise05_theTextStays() {
        SheepChess g = new SheepChess();
        write(g, "r0;b0,0,0;");
        due(g.lay(), 1);
        due(g.count(12), 10);
        due(g.lay(), 1);
        due(g.wipe(), 10);
    }

    static void promise05_itIsDay0Again() {
        SheepChess g = new SheepChess();
        rest(g, 3);
        write(g, "r0;b0,0,0;");
        g.lay();
        due(g.count(3), 0);
        rest(g, 1);
        g.lay();
        due(g.count(3), 0);
    }

    static void promise05_nobodyIsHungryAgain() {
        SheepChess g = new SheepChess();
        write(g, "r00;b0,0,0;b1,1,1;");
        g.lay();
        rest(g, 2);
        due(g.beast(1, 3), 2);
        g.lay();
        due(g.beast(0, 3), 0);
        due(g.beast(1, 3), 0);
    }

    static void promise05_nothingIsUndone() {
        SheepChess g = new SheepChess();
        rest(g, 2);
        write(g, "r0;b0,0,0;");
        g.lay();
        due(g.count(10), 0);
        due(g.undo(), NO);
    }

    static void promise05_nothingIsKept() {
        SheepChess g = new SheepChess();
        g.keep();
        g.keep();
        write(g, "r0;b0,0,0;");
        g.lay();
        due(g.count(11), 0);
        due(g.back(), NO);
        due(g.keep(), 1);
    }

    static void promise05_grassAndBeastsAreAsTold() {
        SheepChess g = new SheepChess();
        write(g, "r089;r120;b2,1,4;b3,0,0;");
        due(g.lay(), 2);
        due(g.count(0), 6);
        due(g.count(1), 3);
        due(meadow(g), " squares 0/1 8/-4 9/-4 1/-4 2/0 0/-4 beasts 2/1/4/0 3/0/0/0");
    }

    static void promise05_theSmallestMeadowIsASquare() {
        SheepChess g = laid("r0;b1,0,0;");
        due(g.count(0), 1);
        due(g.count(1), 1);
        for (int way = 0; way < 4; way++) {
            due(g.goes(0, way), NONE);
        }
    }

    static void promise05_theLargestMeadowHas36Squares() {
        SheepChess g = laid("r000000;".repeat(5) + "r000008;b1,0,35;");
        due(g.count(0), 36);
        due(g.count(1), 6);
        due(g.square(35, 0), 8);
        due(g.square(35, 1), 0);
        due(g.square(36, 0), BAD);
    }

    static void promise05_fourDaysAreBorneWithoutH() {
        SheepChess g = laid("r0;b0,0,0;");
        due(g.count(9), 4);
        due(g.starves(0), 5);
    }

    static void promise05_theLastHungerCounts() {
        due(laid("r0;b0,0,0;h3;h7;h2;").count(9), 2);
        due(laid("h9;r0;b0,0,0;h1;").starves(0), 2);
    }

    static void promise05_thereIsNoWellWithoutW() {
        due(laid("r0;b0,0,0;").summer(0, -1), NO);
    }

    static void promise05_theLastWellCounts() {
        SheepChess g = laid("r000;b0,0,0;w0;w2;");
        due(g.summer(0, -1), 1);
        due(laid("r000;b0,0,0;w2;w0;").summer(0, -1), 0);
    }

    static void promise05_itNeverSnowsWithoutS() {
        SheepChess g = laid("r00;b1,0,0;b1,1,1;h9;");
        for (int day = 0; day <= 9; day++) {
            due(g.takes(0, EAST), 1);
            g.rest();
        }
    }

    static void promise05_snowGoesFromTheFirstToTheLastAndOnFromTheFirst() {
        SheepChess g = laid("r00;b1,0,0;b1,1,1;h9;s1;s0;s0;");
        for (int day = 0; day <= 9; day++) {
            due(g.takes(0, EAST), day % 3 == 0 ? NONE : 1);
            g.rest();
        }
    }

    static void promise05_nineSnowsGoFromTheFirstAgainOnDay9() {
        SheepChess g = laid("r88;b1,0,0;b1,1,1;h9;s0;s0;s0;s0;s0;s0;s0;s0;s1;");
        for (int day = 0; day <= 17; day++) {
            due(g.takes(0, EAST), day % 9 == 8 ? NONE : 1);
            g.rest();
        }
    }

    static void promise05_aSingleSnowIsEachDay() {
        SheepChess g = laid("r00;b1,0,0;b1,1,1;h9;s1;");
        for (int day = 0; day <= 9; day++) {
            due(g.takes(0, EAST), NONE);
            g.rest();
        }
    }

    static void promise05_theOldSnowIsGone() {
        SheepChess g = new SheepChess();
        write(g, "r00;b1,0,0;b1,1,1;s1;");
        g.lay();
        due(g.goes(0, EAST), NONE);
        g.wipe();
        write(g, "r00;b1,0,0;b1,1,1;");
        g.lay();
        due(g.goes(0, EAST), 1);
    }

    static void promise05_aPawnLaidOnTheRowWhereItTurnsIsAPawn() {
        SheepChess g = laid("r00;r00;b2,0,0;b2,1,3;");
        due(g.beast(0, 0), 2);
        due(g.beast(1, 0), 2);
        rest(g, 1);
        due(g.beast(0, 0), 2);
        due(g.beast(1, 0), 2);
    }

    static void promise05_whoHadAKingBeforeHasLostNoMore() {
        SheepChess g = new SheepChess();
        write(g, "r000;b1,0,0;b3,1,1;");
        g.lay();
        g.drive(0, EAST);
        due(g.count(7), 2);
        g.wipe();
        write(g, "r000;b1,0,0;b1,1,2;");
        g.lay();
        due(g.count(7), 0);
        due(g.drive(0, EAST), 1);
    }

    static void promise05_nobodyOfTheOldMeadowIsLeft() {
        SheepChess g = laid("r888888;".repeat(6) + "b1,0,35;");
        due(g.count(4), 1);
        due(g.count(5), 0);
        due(g.beast(1, 2), BAD);
        rest(g, 2);
        due(g.count(8), 36 * 8 - 2);
        due(g.square(35, 0), 6);
        due(g.drive(0, WEST), 34);
        for (int x = 0; x < 34; x++) {
            due(g.square(x, 1), NONE);
        }
    }

    static void promise05_aVillageMayBeWithoutBeasts() {
        SheepChess g = laid("r00;b1,1,0;");
        due(g.count(4), 0);
        due(g.count(7), 0);
        due(g.rest(), 1);
        due(g.drive(0, EAST), 1);
    }
}
