/** Promises 19 to 24: each sentence that names a boundary of what was told, WOLVES, SEASONS, KEPT meadows and counts. */
public final class ToldEdgeTests extends Edges {
    private static final String BARE = "r000;r000;r000;";
    /** An ewe amid one of each kind of the other village: whom it takes shows which way it was driven. */
    private static final String AMID = BARE + "b1,0,4;b0,1,1;b1,1,5;b2,1,7;b3,1,3;h9;";
    /** The first beast is next to the bog, the second one is not. */
    private static final String BY_BOG = "r900;b1,0,1;b1,1,2;h9;";

    public static void main(String[] args) {
        run(ToldEdgeTests.class);
    }

    private static SheepChess lostBy1() {
        SheepChess g = laid("r0009;b1,0,0;b3,1,1;b1,1,2;h9;");
        due(g.drive(0, EAST), 1);
        due(g.count(7), 2);
        return g;
    }

    private static void told(SheepChess g, int b, int x, int many, int first) {
        due(g.otherwise(b, x, 0), many);
        due(g.otherwise(b, x, 1), first);
    }

    private static void chance(SheepChess g, int b, int n, int x, int above, int below) {
        due(g.wolves(b, n, x, 0), above);
        due(g.wolves(b, n, x, 1), below);
    }

    private static void season(SheepChess g, int z, int n, int worth, int many) {
        due(g.season(z, n, 0), worth);
        due(g.season(z, n, 1), many);
    }

    // ---- promise 19: otherwise

    static void promise19_beastsSquaresAndWhatThatAreNotAreBad() {
        SheepChess g = laid(BARE + "b1,0,4;b1,1,8;");
        g.drive(0, NORTH);
        stays(g, () -> g.otherwise(-1, 0, 0), BAD);
        due(g.otherwise(2, 0, 0), BAD);
        due(g.otherwise(0, -1, 0), BAD);
        due(g.otherwise(0, 9, 0), BAD);
        due(g.otherwise(0, 0, -1), BAD);
        due(g.otherwise(0, 0, 2), BAD);
        due(g.otherwise(0, NONE, 0), BAD);
        due(g.otherwise(Integer.MAX_VALUE, Integer.MIN_VALUE, 0), BAD);
    }

    static void promise19_withoutADayThereIsNone() {
        SheepChess g = laid(BARE + "b1,0,4;");
        told(g, 0, 4, 0, NONE);
    }

    static void promise19_anotherWayOrRestingInItsPlace() {
        SheepChess g = laid(BARE + "b1,0,4;h9;");
        g.drive(0, NORTH);
        told(g, 0, 5, 1, 1);
        told(g, 0, 7, 1, 2);
        told(g, 0, 3, 1, 3);
        told(g, 0, 4, 1, 99);
    }

    static void promise19_theEighthBeastWestToo() {
        String rows = BARE + "b1,1,0;b1,1,1;b1,1,2;b1,1,6;b1,1,7;b1,1,8;";
        SheepChess eighth = laid(rows + "b1,0,5;b1,0,4;h9;");
        eighth.rest();
        told(eighth, 7, 3, 1, 73);
        told(eighth, 6, 2, 1, 60);
        SheepChess seventh = laid(rows + "b1,0,4;b1,0,5;h9;");
        seventh.rest();
        told(seventh, 6, 3, 1, 63);
        due(seventh.undo(), 0);
        due(seventh.drive(6, WEST), 3);
        told(seventh, 6, 1, 1, 60);
        told(seventh, 6, 4, 1, 99);
        due(seventh.rest(), 2);
        due(seventh.drive(6, EAST), 4);
        told(seventh, 6, 3, 1, 99);
        told(seventh, 6, 4, 5, 112);
        SheepChess driven = laid(rows + "b1,0,4;b1,0,5;h9;");
        due(driven.drive(6, SOUTH), 7);
        told(driven, 6, 3, 1, 63);
        told(driven, 6, 1, 1, 60);
        told(driven, 6, 4, 1, 99);
    }

    static void promise19_notTheSameWay() {
        for (int way = 0; way < 4; way++) {
            SheepChess g = laid(BARE + "b1,0,4;h9;");
            int to = g.drive(0, way);
            told(g, 0, to, 0, NONE);
        }
    }

    static void promise19_onlyWhereItCanGo() {
        SheepChess g = laid("r090;r000;b1,0,0;b1,1,5;h9;");
        g.drive(0, SOUTH);
        told(g, 0, 0, 1, 99);
        told(g, 0, 1, 0, NONE);
        told(g, 1, 5, 1, 99);
    }

    static void promise19_notAnotherBeastOnADayOfDriving() {
        SheepChess g = laid(BARE + "b1,0,0;b1,0,8;h9;");
        g.drive(0, EAST);
        told(g, 1, 5, 0, NONE);
        told(g, 1, 8, 2, 2);
    }

    static void promise19_onADayOfRestingAnyDriveOfThatVillage() {
        SheepChess g = laid(BARE + "b1,0,0;b1,0,8;b1,1,4;h9;");
        g.rest();
        told(g, 0, 1, 1, 1);
        told(g, 0, 3, 1, 2);
        told(g, 1, 5, 1, 10);
        told(g, 1, 7, 1, 13);
    }

    static void promise19_onADayOfRestingNoDriveOfTheOther() {
        SheepChess g = laid(BARE + "b1,0,0;b1,0,8;b1,1,4;h9;");
        g.rest();
        told(g, 2, 1, 0, NONE);
        told(g, 2, 4, 4, 1);
        g.rest();
        told(g, 2, 1, 1, 20);
    }

    static void promise19_restingIsNoOtherThanResting() {
        SheepChess g = laid("r9;r0;r9;b1,0,1;h9;");
        rest(g, 4);
        told(g, 0, 1, 0, NONE);
    }

    static void promise19_theLatestDayIs0() {
        SheepChess g = laid(BARE + "b1,0,4;b1,1,8;h9;");
        g.drive(0, NORTH);
        told(g, 0, 5, 1, 1);
        g.rest();
        told(g, 0, 5, 1, 101);
        told(g, 0, 4, 1, 199);
        g.rest();
        due(g.otherwise(0, 7, 1), 202);
    }

    /** On day 0 alone it does not snow: on that day alone the ewe could have taken the other one. */
    static void promise19_theEighthLatestDayCounts() {
        SheepChess g = laid("r00;b1,0,0;b1,1,1;h9;s0;s1;s1;s1;s1;s1;s1;s1;s1;");
        rest(g, 8);
        told(g, 0, 1, 1, 701);
        told(g, 1, 1, 0, NONE);
    }

    static void promise19_theNinthLatestDayDoesNot() {
        SheepChess g = laid("r00;b1,0,0;b1,1,1;h9;s0;s1;s1;s1;s1;s1;s1;s1;s1;");
        rest(g, 9);
        told(g, 0, 1, 0, NONE);
    }

    static void promise19_allLaterDaysAreAsTheyWere() {
        SheepChess g = laid("r0000;r0000;r0000;b1,0,4;h9;");
        due(g.drive(0, EAST), 5);
        g.rest();
        due(g.drive(0, EAST), 6);
        told(g, 0, 1, 2, 0);
        told(g, 0, 9, 2, 2);
        told(g, 0, 5, 2, 99);
        told(g, 0, 4, 1, 3);
        told(g, 0, 6, 0, NONE);
    }

    static void promise19_whereALaterDriveCanNotBeThereIsResting() {
        SheepChess g = laid("r000;r090;r000;b1,0,0;h9;");
        g.drive(0, EAST);
        g.rest();
        due(g.drive(0, EAST), 2);
        told(g, 0, 3, 1, 202);
    }

    static void promise19_whoIsTakenIsDrivenNoMore() {
        SheepChess g = laid("r0000;r0000;b1,0,0;b1,1,1;h9;");
        g.rest();
        due(g.drive(1, EAST), 2);
        told(g, 0, 1, 1, 101);
        told(g, 1, 2, 1, 102);
        told(g, 0, 0, 2, 12);
        told(g, 1, 1, 1, 99);
    }

    static void promise19_whereAVillageHasLostThereIsResting() {
        SheepChess g = laid("r0000;b3,1,1;b1,0,0;b1,1,3;h9;");
        g.rest();
        due(g.drive(2, WEST), 2);
        told(g, 2, 3, 2, 99);
        told(g, 1, 1, 1, 111);
    }

    static void promise19_whoeverLosesThereDaysGoByAllTheSame() {
        SheepChess g = laid("r0000;b3,1,1;b1,0,0;b1,1,3;h2;");
        g.rest();
        g.rest();
        due(g.otherwise(1, 1, 1), 111);
        g.rest();
        due(g.beast(1, 2), NONE);
        told(g, 1, 1, 0, NONE);
    }

    static void promise19_whoIsOffTheMeadowIsNowhere() {
        SheepChess g = laid("r00;b1,0,0;b1,1,1;h9;");
        g.drive(0, EAST);
        told(g, 1, 1, 1, 99);
        told(g, 1, 0, 0, NONE);
        SheepChess starved = laid("r01;b1,0,0;h1;");
        starved.drive(0, EAST);
        starved.rest();
        told(starved, 0, 0, 0, NONE);
    }

    static void promise19_earlierInKComesFirst() {
        SheepChess g = laid(BARE + "b1,0,4;b1,1,8;h9;");
        g.rest();
        g.drive(1, NORTH);
        told(g, 1, 8, 1, 99);
        told(g, 0, 4, 2, 13);
        told(g, 0, 1, 1, 100);
        g.rest();
        told(g, 1, 5, 7, 0);
        told(g, 0, 4, 2, 113);
    }

    static void promise19_thenTheLowestDriveAndRestingLast() {
        SheepChess g = laid(BARE + "b1,0,4;b1,1,8;h9;");
        g.drive(0, WEST);
        told(g, 1, 8, 4, 0);
    }

    static void promise19_bySnowOfThatDay() {
        SheepChess snow = laid("r00;b1,0,0;b1,1,1;h9;s1;s0;");
        snow.rest();
        told(snow, 0, 1, 0, NONE);
        SheepChess none = laid("r00;b1,0,0;b1,1,1;h9;s0;s1;");
        none.rest();
        told(none, 0, 1, 1, 1);
    }

    static void promise19_aPawnHasNoOtherWay() {
        SheepChess g = laid("r00;r00;r00;b2,0,4;h9;");
        g.drive(0, NORTH);
        told(g, 0, 4, 1, 99);
        told(g, 0, 5, 0, NONE);
    }

    static void promise19_aDayUndoneIsNotTold() {
        SheepChess g = laid(BARE + "b1,0,4;h9;");
        g.drive(0, NORTH);
        g.undo();
        told(g, 0, 5, 0, NONE);
        told(g, 0, 4, 0, NONE);
    }

    static void promise19_behindBackNothingIsTold() {
        SheepChess g = laid(BARE + "b1,0,4;h9;");
        g.drive(0, NORTH);
        g.keep();
        due(g.otherwise(0, 5, 1), 1);
        g.back();
        told(g, 0, 5, 0, NONE);
    }

    static void promise19_behindLayNothingIsTold() {
        SheepChess g = new SheepChess();
        write(g, BARE + "b1,0,4;h9;");
        g.lay();
        g.drive(0, NORTH);
        due(g.otherwise(0, 5, 1), 1);
        g.lay();
        told(g, 0, 5, 0, NONE);
    }

    static void promise19_nothingChanges() {
        SheepChess g = laid(BARE + "b1,0,4;b1,1,8;h9;");
        g.drive(0, NORTH);
        g.rest();
        stays(g, () -> g.otherwise(0, 5, 0), 1);
        stays(g, () -> g.otherwise(0, 5, 1), 101);
    }

    // ---- promise 20: wolves

    static void promise20_beastsThatAreNotAreBad() {
        SheepChess g = laid(BY_BOG);
        stays(g, () -> g.wolves(-1, 0, 0, 0), BAD);
        due(g.wolves(2, 0, 0, 0), BAD);
        due(g.wolves(Integer.MAX_VALUE, 0, 0, 1), BAD);
    }

    static void promise20_nIs0To8() {
        SheepChess g = laid(BY_BOG);
        due(g.wolves(0, -1, 0, 0), BAD);
        due(g.wolves(0, 0, 0, 0), 1);
        due(g.wolves(0, 8, 0, 0), 1);
        due(g.wolves(0, 9, 0, 0), BAD);
        due(g.wolves(0, Integer.MIN_VALUE, 0, 0), BAD);
    }

    static void promise20_xIs0To10() {
        SheepChess g = laid(BY_BOG);
        due(g.wolves(0, 1, -1, 0), BAD);
        chance(g, 0, 1, 0, 1, 1);
        chance(g, 0, 1, 1, 9, 10);
        chance(g, 0, 1, 9, 1, 10);
        chance(g, 0, 1, 10, 0, 1);
        due(g.wolves(0, 1, 11, 0), BAD);
        due(g.wolves(0, 1, Integer.MAX_VALUE, 1), BAD);
    }

    static void promise20_partIs0Or1() {
        SheepChess g = laid(BY_BOG);
        due(g.wolves(0, 1, 3, 0), 7);
        due(g.wolves(0, 1, 3, 1), 10);
        due(g.wolves(0, 1, 3, 2), BAD);
        due(g.wolves(0, 1, 3, -1), BAD);
    }

    static void promise20_offTheMeadowIsNo() {
        SheepChess g = laid("r009;b1,0,0;b1,1,1;h9;");
        g.drive(0, EAST);
        stays(g, () -> g.wolves(1, 1, 1, 0), NO);
        due(g.wolves(1, 0, 0, 1), NO);
    }

    static void promise20_badComesAheadOfNo() {
        SheepChess g = laid("r009;b1,0,0;b1,1,1;h9;");
        g.drive(0, EAST);
        due(g.wolves(1, 9, 1, 0), BAD);
        due(g.wolves(1, -1, 1, 0), BAD);
        due(g.wolves(1, 1, 11, 0), BAD);
        due(g.wolves(1, 1, -1, 0), BAD);
        due(g.wolves(1, 1, 1, 2), BAD);
        due(g.wolves(2, 1, 1, 0), BAD);
    }

    static void promise20_onNoDayNobodyIsTaken() {
        SheepChess g = laid(BY_BOG);
        chance(g, 0, 0, 10, 1, 1);
        chance(g, 0, 0, 5, 1, 1);
    }

    static void promise20_by0OfTenNoWolfComes() {
        chance(laid(BY_BOG), 0, 8, 0, 1, 1);
    }

    static void promise20_by10OfTenAWolfComesEachDay() {
        SheepChess g = laid("r090;b1,0,2;b1,1,0;h9;");
        chance(g, 0, 1, 10, 0, 1);
        chance(g, 1, 1, 10, 1, 1);
        chance(g, 1, 2, 10, 0, 1);
    }

    static void promise20_inLowestTerms() {
        SheepChess g = laid(BY_BOG);
        chance(g, 0, 1, 2, 4, 5);
        chance(g, 0, 1, 5, 1, 2);
        chance(g, 0, 2, 4, 9, 25);
        chance(g, 0, 3, 5, 1, 8);
        chance(g, 0, 8, 5, 1, 256);
        chance(g, 0, 2, 3, 49, 100);
    }

    static void promise20_eightDaysMayBeAHundredMillionBelow() {
        SheepChess g = laid(BY_BOG);
        chance(g, 0, 8, 9, 1, 100000000);
        chance(g, 0, 8, 1, 43046721, 100000000);
    }

    static void promise20_theLowestNumberByABogIsTaken() {
        SheepChess g = laid("r090;b1,0,2;b1,1,0;h9;");
        chance(g, 0, 1, 5, 1, 2);
        chance(g, 1, 1, 5, 1, 1);
        chance(g, 1, 1, 1, 1, 1);
        chance(g, 1, 2, 1, 99, 100);
        chance(g, 1, 2, 9, 19, 100);
        chance(g, 1, 2, 5, 3, 4);
        chance(g, 1, 3, 5, 1, 2);
        chance(g, 1, 8, 5, 9, 256);
        chance(g, 1, 8, 1, 81310473, 100000000);
        chance(g, 1, 8, 3, 25529833, 100000000);
        chance(g, 1, 7, 5, 1, 16);
    }

    static void promise20_whoIsNotByABogIsNotTaken() {
        SheepChess g = laid("r0009;b1,0,0;b1,1,2;h9;");
        chance(g, 0, 8, 10, 1, 1);
        chance(g, 1, 1, 3, 7, 10);
        chance(laid("r00;b1,0,0;b1,1,1;h9;"), 0, 8, 10, 1, 1);
    }

    static void promise20_aBogOnEachSideCounts() {
        for (int bog : new int[] {1, 3, 5, 7}) {
            StringBuilder rows = new StringBuilder("000000000");
            rows.setCharAt(bog, '9');
            SheepChess g = laid("r" + rows.substring(0, 3) + ";r" + rows.substring(3, 6) + ";r" + rows.substring(6) + ";b1,0,4;");
            chance(g, 0, 1, 10, 0, 1);
        }
    }

    static void promise20_cornerwiseAndAcrossTheRowsEndIsNotNextTo() {
        chance(laid("r909;r000;r909;b1,0,4;"), 0, 1, 10, 1, 1);
        chance(laid("r009;r000;b1,0,3;"), 0, 1, 10, 1, 1);
        chance(laid("r000;r900;b1,0,2;"), 0, 1, 10, 1, 1);
    }

    static void promise20_theWolfComesBehindTheGrazing() {
        SheepChess g = laid("r093;b1,0,0;b1,1,2;h1;");
        chance(g, 1, 2, 5, 1, 2);
        chance(g, 1, 2, 10, 0, 1);
        chance(g, 0, 1, 5, 1, 2);
    }

    static void promise20_whoStarvesIsNotThere() {
        SheepChess g = laid("r0;b1,0,0;h1;");
        chance(g, 0, 1, 0, 1, 1);
        chance(g, 0, 2, 0, 0, 1);
    }

    static void promise20_whoeverHasLost() {
        SheepChess g = lostBy1();
        chance(g, 2, 1, 3, 7, 10);
        chance(g, 0, 8, 10, 1, 1);
        SheepChess king = laid("r9000;b3,0,1;b1,1,3;h3;");
        chance(king, 1, 3, 10, 1, 1);
        chance(king, 1, 4, 10, 0, 1);
    }

    static void promise20_nothingChanges() {
        SheepChess g = laid(BY_BOG);
        stays(g, () -> g.wolves(0, 8, 3, 0), 5764801);
        stays(g, () -> g.wolves(0, 1, 3, 1), 10);
    }

    // ---- promise 21: season

    static void promise21_zIs0To9999() {
        SheepChess g = laid(AMID);
        stays(g, () -> g.season(-1, 1, 0), BAD);
        due(g.season(0, 1, 0), 79);
        due(g.season(9999, 1, 0), 74);
        due(g.season(10000, 1, 0), BAD);
        due(g.season(Integer.MIN_VALUE, 1, 0), BAD);
        due(g.season(Integer.MAX_VALUE, 1, 1), BAD);
    }

    static void promise21_nIs1To60() {
        SheepChess g = laid(AMID);
        due(g.season(49, 0, 0), BAD);
        due(g.season(49, 1, 0), 94);
        due(g.season(49, 60, 0), 94);
        due(g.season(49, 61, 0), BAD);
        due(g.season(49, -1, 1), BAD);
        due(g.season(49, Integer.MAX_VALUE, 1), BAD);
    }

    static void promise21_whatIs0Or1() {
        SheepChess g = laid(AMID);
        due(g.season(0, 1, 0), 79);
        due(g.season(0, 1, 1), 4);
        due(g.season(0, 1, 2), BAD);
        due(g.season(0, 1, -1), BAD);
    }

    static void promise21_theDrawTellsBeastAndWay() {
        SheepChess g = laid(AMID);
        season(g, 0, 1, 79, 4);
        season(g, 15, 1, 77, 4);
        season(g, 16, 1, 75, 4);
        season(g, 49, 1, 94, 4);
        season(g, 19, 1, 77, 4);
        season(g, 60, 1, 75, 4);
    }

    static void promise21_theHighestZDraws51303() {
        season(laid(BARE + "b0,1,1;b2,1,7;b1,0,4;b1,1,5;b3,1,3;h9;"), 9999, 1, 77, 4);
    }

    static void promise21_theEighthBeastWestToo() {
        String rows = BARE + "b0,1,1;b1,1,5;b2,1,7;b3,1,3;b2,1,6;b2,1,8;";
        season(laid(rows + "b2,1,0;b1,0,4;"), 23, 1, 91, 7);
        season(laid(rows + "b1,0,4;b2,1,0;"), 43, 1, 91, 7);
    }

    static void promise21_theVillageWhoseDayItIsNotRests() {
        SheepChess g = laid(AMID);
        season(g, 9, 1, 74, 5);
        rest(g, 1);
        season(g, 9, 1, 71, 4);
        season(g, 15, 1, 74, 5);
    }

    static void promise21_whoCanNotGoRestsAndDaysGoOn() {
        SheepChess g = laid("r000;b1,0,0;b1,1,1;h9;");
        season(g, 6, 1, 100, 2);
        season(g, 6, 2, 100, 2);
        season(g, 6, 3, 103, 1);
        SheepChess snow = laid("r000;b1,0,0;b1,1,1;h9;s0;s0;s1;");
        season(snow, 6, 3, 100, 2);
    }

    static void promise21_kIsCountedFromNowOn() {
        SheepChess g = laid(AMID);
        rest(g, 1);
        season(g, 57, 1, 74, 5);
        season(g, 57, 2, 77, 4);
        season(g, 211, 2, 75, 4);
        season(g, 168, 2, 94, 4);
    }

    /** The one that is off is counted with the others: of five the third is drawn. */
    static void promise21_asManyAsThereAreIsThoseOffToo() {
        SheepChess g = laid(BARE + "b1,1,0;b1,0,1;b1,0,4;b1,1,5;b2,1,7;h9;");
        due(g.drive(1, WEST), 0);
        rest(g, 1);
        season(g, 7, 1, 105, 3);
        season(g, 97, 1, 105, 3);
    }

    static void promise21_itEndsWhereAVillageLoses() {
        SheepChess g = laid(AMID);
        season(g, 49, 1, 94, 4);
        season(g, 49, 30, 94, 4);
        season(g, 49, 60, 94, 4);
    }

    static void promise21_withoutAKingItGoesOnTillAllHaveStarved() {
        SheepChess g = laid("r9;r0;r9;r0;r9;b1,0,1;b1,1,3;h2;");
        season(g, 3, 2, 100, 2);
        season(g, 3, 3, 100, 0);
        season(g, 3, 60, 100, 0);
    }

    static void promise21_whereAVillageHasLostNoDayGoesBy() {
        SheepChess g = lostBy1();
        for (int z = 0; z < 20; z++) {
            season(g, z, 60, 100, 2);
        }
    }

    static void promise21_aStarvedKingEndsItToo() {
        SheepChess g = laid("r9;r0;r9;r4;r9;b3,0,1;b1,1,3;h2;");
        season(g, 3, 2, 117, 2);
        season(g, 3, 3, 97, 1);
        season(g, 3, 60, 97, 1);
    }

    static void promise21_worthAnd100MayBeBelow0() {
        SheepChess g = laid("r000000;r000000;b3,1,0;b3,1,1;b3,1,2;b3,1,3;b3,1,4;b3,1,5;b3,1,6;b3,1,7;");
        season(g, 0, 1, -60, 8);
    }

    static void promise21_nothingChanges() {
        SheepChess g = laid(AMID);
        stays(g, () -> g.season(49, 60, 0), 94);
        stays(g, () -> g.season(0, 1, 1), 4);
    }

    // ---- promise 22: keep

    static void promise22_twoCanBeKept() {
        SheepChess g = laid("r12;b1,0,0;");
        due(g.keep(), 1);
        due(g.count(11), 1);
        due(g.keep(), 2);
        due(g.count(11), 2);
    }

    static void promise22_aThirdIsFull() {
        SheepChess g = laid("r12;b1,0,0;h9;");
        g.keep();
        rest(g, 1);
        g.keep();
        rest(g, 1);
        stays(g, g::keep, FULL);
        due(g.back(), 1);
        due(g.count(3), 1);
        due(g.back(), 0);
        due(g.count(3), 0);
    }

    static void promise22_behindBackOneMoreCanBe() {
        SheepChess g = laid("r12;b1,0,0;");
        g.keep();
        g.keep();
        g.back();
        due(g.keep(), 2);
        due(g.keep(), FULL);
    }

    static void promise22_whatCanBeUndoneStays() {
        SheepChess g = laid("r12;b1,0,0;");
        rest(g, 2);
        due(g.keep(), 1);
        due(g.count(10), 2);
        due(g.undo(), 1);
        due(g.count(3), 1);
        due(g.count(11), 1);
    }

    static void promise22_aLostMeadowCanBeKept() {
        SheepChess g = lostBy1();
        due(g.keep(), 1);
        g.undo();
        due(g.count(7), 0);
        due(g.back(), 0);
        due(g.count(7), 2);
    }

    static void promise22_itIsKeptAsItStands() {
        SheepChess g = laid("r00;r03;b1,0,3;h9;");
        g.keep();
        String before = meadow(g);
        g.drive(0, NORTH);
        rest(g, 9);
        due(g.back(), 0);
        due(meadow(g), before);
    }

    // ---- promise 23: back

    static void promise23_withNothingKeptIsNo() {
        SheepChess g = laid("r12;b1,0,0;");
        rest(g, 1);
        stays(g, g::back, NO);
        due(g.undo(), 0);
    }

    static void promise23_theLastKeptComesFirst() {
        SheepChess g = laid("r12;b1,0,0;");
        g.keep();
        rest(g, 1);
        g.keep();
        rest(g, 1);
        due(g.back(), 1);
        due(g.count(3), 1);
        due(g.back(), 0);
        due(g.count(3), 0);
        due(g.back(), NO);
    }

    static void promise23_itIsKeptNoMore() {
        SheepChess g = laid("r12;b1,0,0;");
        g.keep();
        due(g.back(), 0);
        due(g.count(11), 0);
        due(g.back(), NO);
    }

    static void promise23_nothingCanBeUndoneThen() {
        SheepChess g = laid("r12;b1,0,0;");
        rest(g, 3);
        g.keep();
        due(g.count(10), 3);
        due(g.back(), 0);
        due(g.count(10), 0);
        due(g.undo(), NO);
        rest(g, 1);
        due(g.undo(), 0);
        due(g.count(3), 3);
    }

    static void promise23_theTextStays() {
        SheepChess g = laid("r12;b1,0,0;");
        write(g, "r0;");
        g.keep();
        write(g, "x");
        due(g.back(), 0);
        due(g.count(12), 4);
        due(g.fault(), 3);
    }

    static void promise23_allIsAsItWasKept() {
        SheepChess g = laid("r02;r00;b1,0,2;b2,0,3;b1,1,0;h9;s0;s0;s1;");
        due(g.drive(1, NORTH), 1);
        rest(g, 1);
        g.keep();
        String before = meadow(g);
        due(g.takes(0, NORTH), NONE);
        rest(g, 2);
        due(g.drive(0, NORTH), 0);
        due(g.back(), 0);
        due(meadow(g), before);
        due(g.count(3), 2);
        due(g.takes(0, NORTH), NONE);
        due(g.beast(1, 0), 1);
    }

    static void promise23_theLostKingIsBack() {
        SheepChess g = laid("r000;b1,0,0;b3,1,1;b1,1,2;");
        g.keep();
        g.drive(0, EAST);
        due(g.rest(), NO);
        due(g.back(), 0);
        due(g.count(7), 0);
        due(g.rest(), 1);
    }

    static void promise23_theSecondBackLeavesTheFirst() {
        SheepChess g = laid("r12;b1,0,0;");
        g.keep();
        g.keep();
        due(g.back(), 1);
        rest(g, 1);
        due(g.count(11), 1);
        due(g.back(), 0);
        due(g.count(3), 0);
    }

    // ---- promise 24: count

    static void promise24_whatIs0To12() {
        SheepChess g = laid("r0129;r4000;b0,0,0;b3,1,2;b2,0,6;b1,0,7;h6;");
        stays(g, () -> g.count(-1), BAD);
        due(g.count(13), BAD);
        due(g.count(Integer.MIN_VALUE), BAD);
        due(g.count(Integer.MAX_VALUE), BAD);
        int[] all = {8, 4, 4, 0, 3, 1, 89, 0, 7, 6, 0, 0, 0};
        for (int what = 0; what <= 12; what++) {
            due(g.count(what), all[what]);
        }
    }

    static void promise24_beastsAreCountedOffTheMeadowToo() {
        SheepChess g = laid("r00;b1,0,0;b1,1,1;h9;");
        g.drive(0, EAST);
        due(g.count(2), 2);
        due(g.count(4), 1);
        due(g.count(5), 0);
        due(g.count(6), 103);
    }

    static void promise24_worthAnd100MayBeBelow0() {
        SheepChess g = laid("r000000;r000000;b3,1,0;b3,1,1;b3,1,2;b3,1,3;b3,1,4;b3,1,5;b3,1,6;b3,1,7;");
        due(g.count(6), -60);
        due(g.count(4), 0);
        due(g.count(5), 8);
        due(laid("r000000;r000000;b3,0,0;b3,0,1;b3,0,2;b3,0,3;b3,0,4;b3,0,5;b3,0,6;b3,0,7;").count(6), 260);
    }

    static void promise24_lostVillagesAreBits() {
        SheepChess g = laid("r0000;b3,0,0;b3,1,3;h1;");
        due(g.count(7), 0);
        rest(g, 2);
        due(g.count(7), 3);
        due(lostBy1().count(7), 2);
        SheepChess zero = laid("r20;b3,1,0;b3,0,1;h1;");
        rest(zero, 2);
        due(zero.count(7), 1);
    }

    static void promise24_aVillageWithoutAKingHasNotLost() {
        SheepChess g = laid("r00;b1,0,0;b2,1,1;h1;");
        rest(g, 2);
        due(g.count(4) + g.count(5), 0);
        due(g.count(7), 0);
    }

    static void promise24_bogsAreNoGrass() {
        due(laid("r999;r999;r990;b1,0,8;").count(8), 0);
        due(laid("r888;r888;r889;b1,0,0;").count(8), 64);
    }

    static void promise24_eightAtMostCanBeUndone() {
        SheepChess g = laid("r8;b1,0,0;h9;");
        for (int day = 1; day <= 12; day++) {
            g.rest();
            due(g.count(10), day < 8 ? day : 8);
        }
    }
}
