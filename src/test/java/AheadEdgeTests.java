/** Promises 13 to 18: each sentence that names a boundary of what can be: FEWEST, STRAY, SUMMER, GAME, AGAIN, STARVES. */
public final class AheadEdgeTests extends Edges {
    private static final String BARE = "r000;r000;r000;";
    /** From 0 a ram comes to the well on 8 by three drives, east, south and west, and by none fewer. */
    private static final String HOOK = "r0000;r9990;r0000;r0999;w8;";

    public static void main(String[] args) {
        run(AheadEdgeTests.class);
    }

    /** The ewe, on 1, has taken the king of village 1; the ram of 0 is on 5, the ewe of 1 on 3. */
    private static SheepChess lostBy1() {
        SheepChess g = laid("r000;r000;b1,0,0;b3,1,1;b0,0,5;b1,1,3;w5;h9;");
        due(g.drive(0, EAST), 1);
        due(g.count(7), 2);
        return g;
    }

    private static void ways(SheepChess g, int b, int x, int... due) {
        due(g.fewest(b, x, -1), due.length);
        for (int k = 0; k < due.length; k++) {
            due(g.fewest(b, x, k), due[k]);
        }
        due(g.fewest(b, x, due.length), NONE);
    }

    /** How many days, then what the village does on its own ones. */
    private static void summer(SheepChess g, int v, int days, int... due) {
        due(g.summer(v, -1), days);
        for (int k = 0; k < due.length; k++) {
            due(g.summer(v, k), due[k]);
        }
        due(g.summer(v, due.length), NONE);
    }

    private static void game(SheepChess g, int n, int worth, int first) {
        due(g.game(n, 0), worth);
        due(g.game(n, 1), first);
    }

    // ---- promise 13: fewest

    static void promise13_beastsAndSquaresThatAreNotAreBad() {
        SheepChess g = laid(BARE + "b1,0,4;b1,1,8;");
        stays(g, () -> g.fewest(-1, 0, -1), BAD);
        due(g.fewest(2, 0, -1), BAD);
        due(g.fewest(0, -1, -1), BAD);
        due(g.fewest(0, 9, -1), BAD);
        due(g.fewest(0, NONE, 0), BAD);
        due(g.fewest(Integer.MAX_VALUE, Integer.MIN_VALUE, 0), BAD);
    }

    static void promise13_belowMinus1IsBad() {
        SheepChess g = laid(BARE + "b1,0,4;");
        due(g.fewest(0, 5, -1), 1);
        due(g.fewest(0, 5, -2), BAD);
        due(g.fewest(0, 5, Integer.MIN_VALUE), BAD);
    }

    static void promise13_offTheMeadowIsNo() {
        SheepChess g = laid("r00;b1,0,0;b1,1,1;");
        g.drive(0, EAST);
        stays(g, () -> g.fewest(1, 0, -1), NO);
        due(g.fewest(1, 0, 0), NO);
    }

    static void promise13_badComesAheadOfNo() {
        SheepChess g = laid("r00;b1,0,0;b1,1,1;");
        g.drive(0, EAST);
        due(g.fewest(1, 2, -1), BAD);
        due(g.fewest(1, 0, -2), BAD);
        due(g.fewest(2, 0, -1), BAD);
    }

    static void promise13_whereItIsItTakesNone() {
        for (int kind = 0; kind < 4; kind++) {
            SheepChess g = laid(BARE + "b" + kind + ",0,4;");
            ways(g, 0, 4);
        }
    }

    static void promise13_thereAreNotSoMany() {
        SheepChess g = laid("r000;b1,0,0;");
        due(g.fewest(0, 2, 1), EAST);
        due(g.fewest(0, 2, 2), NONE);
        due(g.fewest(0, 2, Integer.MAX_VALUE), NONE);
    }

    static void promise13_whereItCanNotComeIsNone() {
        SheepChess g = laid("r090;r990;b1,0,0;");
        due(g.fewest(0, 2, -1), NONE);
        due(g.fewest(0, 2, 0), NONE);
        due(g.fewest(0, 1, -1), NONE);
        due(g.fewest(0, 1, 0), NONE);
    }

    static void promise13_twelveDrivesCanBe() {
        SheepChess g = laid("r000000;r999990;r000000;r099999;r000000;b1,0,0;");
        due(g.fewest(0, 13, -1), 11);
        ways(g, 0, 12, 1, 1, 1, 1, 1, 2, 2, 3, 3, 3, 3, 3);
    }

    static void promise13_thirteenDrivesAreNone() {
        SheepChess g = laid("r000000;r999990;r000000;r099999;r000000;b1,0,0;");
        due(g.fewest(0, 18, -1), NONE);
        due(g.fewest(0, 18, 0), NONE);
        due(g.fewest(0, 24, -1), NONE);
    }

    static void promise13_ofSeveralTheFirst() {
        SheepChess g = laid(BARE + "b1,0,8;b1,1,3;");
        ways(g, 0, 0, NORTH, NORTH, WEST, WEST);
        ways(laid(BARE + "b1,0,0;"), 0, 8, EAST, EAST, SOUTH, SOUTH);
        ways(laid(BARE + "b1,0,6;"), 0, 2, NORTH, NORTH, EAST, EAST);
        ways(laid(BARE + "b1,0,2;"), 0, 6, SOUTH, SOUTH, WEST, WEST);
    }

    static void promise13_theSecondWayCountsWhereTheFirstIsTheSame() {
        ways(laid("r000;r900;r000;b1,0,0;"), 0, 8, EAST, EAST, SOUTH, SOUTH);
        ways(laid("r009;r000;r000;b1,0,0;"), 0, 8, EAST, SOUTH, EAST, SOUTH);
        ways(laid("r009;r009;r000;b1,0,0;"), 0, 8, EAST, SOUTH, SOUTH, EAST);
    }

    static void promise13_fewerDrivesComeAheadOfTheFirstWay() {
        SheepChess g = laid(BARE + "b1,0,4;");
        ways(g, 0, 3, WEST);
        ways(g, 0, 6, SOUTH, WEST);
    }

    static void promise13_nobodyIsTaken() {
        SheepChess g = laid("r000;r000;b1,0,0;b1,1,1;");
        due(g.fewest(0, 1, -1), NONE);
        due(g.fewest(0, 1, 0), NONE);
        ways(g, 0, 2, SOUTH, EAST, EAST, NORTH);
    }

    static void promise13_aRamStopsAheadOfTheOther() {
        SheepChess g = laid("r0000;b0,0,0;b1,1,3;");
        ways(g, 0, 2, EAST);
        due(g.fewest(0, 3, -1), NONE);
    }

    static void promise13_itsOwnStandInTheWay() {
        SheepChess g = laid("r000;r000;b1,0,0;b1,0,1;");
        due(g.fewest(0, 1, -1), NONE);
        ways(g, 0, 2, SOUTH, EAST, EAST, NORTH);
    }

    static void promise13_aRamIsNotWhereItGoesBy() {
        SheepChess g = laid("r0000;b0,0,0;");
        ways(g, 0, 3, EAST);
        due(g.fewest(0, 1, -1), NONE);
        due(g.fewest(0, 2, 0), NONE);
    }

    static void promise13_allGrassStays() {
        SheepChess g = laid("r0100;b0,0,0;");
        ways(g, 0, 3, EAST, EAST);
        ways(g, 0, 1, EAST);
        SheepChess back = laid("r1010;b0,0,1;");
        ways(back, 0, 3, EAST, EAST);
        ways(back, 0, 0, WEST);
    }

    static void promise13_aPawnIsAnEweAsSoonAsThatIsSo() {
        SheepChess g = laid("r00;r00;r00;b2,0,4;");
        ways(g, 0, 0, NORTH, NORTH);
        ways(g, 0, 2, NORTH);
        ways(g, 0, 5, NORTH, NORTH, EAST, SOUTH, SOUTH);
        SheepChess other = laid("r00;r00;r00;b2,1,1;");
        ways(other, 0, 5, SOUTH, SOUTH);
        ways(other, 0, 0, SOUTH, SOUTH, NORTH, NORTH, WEST);
    }

    static void promise13_aPawnThatTurnsNowhereGoesStraight() {
        SheepChess g = laid("r900;r000;r000;b2,0,6;");
        ways(g, 0, 3, NORTH);
        due(g.fewest(0, 4, -1), NONE);
        due(g.fewest(0, 7, -1), NONE);
    }

    static void promise13_aPawnLaidWhereItWouldTurnStays() {
        SheepChess g = laid("r00;r00;b2,0,0;");
        ways(g, 0, 0);
        due(g.fewest(0, 1, -1), NONE);
        due(g.fewest(0, 2, -1), NONE);
    }

    static void promise13_aKingGoesRoundTheRam() {
        SheepChess g = laid(BARE + "b3,0,0;b0,1,5;");
        ways(g, 0, 7, SOUTH, SOUTH, EAST);
        due(g.fewest(0, 2, -1), NONE);
        due(g.fewest(0, 4, -1), NONE);
        due(g.fewest(0, 8, -1), NONE);
        due(g.fewest(0, 5, -1), NONE);
    }

    static void promise13_whoseverDayItIsAndWhoeverHasLost() {
        SheepChess g = lostBy1();
        ways(g, 3, 4, EAST);
        ways(g, 0, 2, EAST);
        due(g.fewest(1, 2, -1), NO);
    }

    static void promise13_noDayGoesBy() {
        SheepChess g = laid("r0010;r0000;b0,0,0;b2,1,1;h1;");
        stays(g, () -> g.fewest(0, 6, -1), 5);
        stays(g, () -> g.fewest(0, 3, -1), 3);
        stays(g, () -> g.fewest(1, 5, 0), SOUTH);
    }

    // ---- promise 14: stray

    static void promise14_beastsThatAreNotAreBad() {
        SheepChess g = laid(BARE + "b1,0,4;b1,1,8;");
        stays(g, () -> g.stray(-1, 1), BAD);
        due(g.stray(2, 1), BAD);
        due(g.stray(Integer.MAX_VALUE, 1), BAD);
    }

    static void promise14_nIs0To6() {
        SheepChess g = laid("r000000;".repeat(6) + "b1,0,0;");
        due(g.stray(0, -1), BAD);
        due(g.stray(0, 0), 1);
        due(g.stray(0, 1), 3);
        due(g.stray(0, 5), 21);
        due(g.stray(0, 6), 26);
        due(g.stray(0, 7), BAD);
        due(g.stray(0, Integer.MIN_VALUE), BAD);
        due(g.stray(0, Integer.MAX_VALUE), BAD);
    }

    static void promise14_offTheMeadowIsNo() {
        SheepChess g = laid("r00;b1,0,0;b1,1,1;");
        g.drive(0, EAST);
        stays(g, () -> g.stray(1, 0), NO);
        due(g.stray(1, 7), BAD);
        due(g.stray(1, -1), BAD);
        due(g.stray(2, 0), BAD);
    }

    static void promise14_byNoneItIsWhereItIs() {
        for (int kind = 0; kind < 4; kind++) {
            due(laid(BARE + "b" + kind + ",1,4;").stray(0, 0), 1);
        }
    }

    static void promise14_byFewerCountsToo() {
        SheepChess g = laid("r000;b1,0,0;");
        due(g.stray(0, 1), 2);
        due(g.stray(0, 2), 3);
        due(g.stray(0, 3), 3);
        due(g.stray(0, 6), 3);
    }

    static void promise14_whatIsFarOffDoesNotCount() {
        SheepChess g = laid("r000000;r999990;r000000;r099999;r000000;b1,0,0;");
        due(g.stray(0, 0), 1);
        due(g.stray(0, 5), 6);
        due(g.stray(0, 6), 7);
    }

    static void promise14_nobodyIsTaken() {
        SheepChess g = laid(BARE + "b1,0,4;b1,1,1;b1,0,7;");
        due(g.stray(0, 1), 3);
        due(g.stray(0, 6), 7);
        due(g.stray(1, 6), 7);
    }

    static void promise14_aSquareCountsOnceForPawnAndEwe() {
        SheepChess g = laid("r00;r00;r00;b2,0,4;");
        due(g.stray(0, 1), 2);
        due(g.stray(0, 2), 3);
        due(g.stray(0, 3), 4);
        due(g.stray(0, 4), 5);
        due(g.stray(0, 5), 6);
        due(g.stray(0, 6), 6);
    }

    static void promise14_aRamIsWhereItStopsAlone() {
        SheepChess g = laid("r0000;r0000;b0,0,0;");
        due(g.stray(0, 1), 3);
        due(g.stray(0, 2), 4);
        due(g.stray(0, 6), 4);
    }

    static void promise14_whoseverDayItIsAndWhoeverHasLost() {
        SheepChess g = lostBy1();
        due(g.stray(3, 1), 3);
        due(g.stray(0, 1), 4);
        due(g.stray(1, 1), NO);
    }

    static void promise14_noDayGoesBy() {
        SheepChess g = laid("r0010;r0000;b2,0,5;b2,1,1;h1;");
        stays(g, () -> g.stray(0, 6), 1);
        stays(g, () -> g.stray(1, 6), 1);
    }

    // ---- promise 15: summer

    static void promise15_villagesThatAreNotAreBad() {
        SheepChess g = laid("r00;b0,0,0;w1;");
        stays(g, () -> g.summer(-1, -1), BAD);
        due(g.summer(2, -1), BAD);
        due(g.summer(2, 0), BAD);
        due(g.summer(Integer.MAX_VALUE, 0), BAD);
    }

    static void promise15_belowMinus1IsBad() {
        SheepChess g = laid("r00;b0,0,0;w1;");
        due(g.summer(0, -1), 1);
        due(g.summer(0, -2), BAD);
        due(g.summer(0, Integer.MIN_VALUE), BAD);
    }

    static void promise15_withoutAWellIsNo() {
        SheepChess g = laid("r00;b0,0,0;");
        stays(g, () -> g.summer(0, -1), NO);
        due(g.summer(1, -1), NO);
        due(g.summer(0, 0), NO);
        due(g.summer(0, 99), NO);
    }

    static void promise15_badComesAheadOfNo() {
        SheepChess g = laid("r00;b0,0,0;");
        due(g.summer(2, -1), BAD);
        due(g.summer(-1, 0), BAD);
        due(g.summer(0, -2), BAD);
    }

    static void promise15_aRamThatIsThereTakes0Days() {
        SheepChess g = laid("r00;b0,0,0;b0,1,1;w0;");
        summer(g, 0, 0);
        due(g.summer(0, 5), NONE);
        due(g.summer(0, Integer.MAX_VALUE), NONE);
        rest(g, 1);
        summer(g, 0, 0);
    }

    static void promise15_theWellMayBeOnSquare0() {
        summer(laid("r000;b0,0,2;w0;"), 0, 1, 3);
    }

    static void promise15_onlyARamOfItCounts() {
        due(laid("r00;b1,0,0;w0;").summer(0, -1), NONE);
        due(laid("r0;r0;b2,0,0;w0;").summer(0, -1), NONE);
        due(laid("r00;b3,0,0;w0;").summer(0, -1), NONE);
        due(laid("r9;r0;b0,1,1;w1;").summer(0, -1), NONE);
        due(laid("r00;b1,0,0;w1;").summer(0, -1), NONE);
    }

    static void promise15_noneIsAnsweredForEachK() {
        SheepChess g = laid("r00;b1,0,0;w1;");
        due(g.summer(0, -1), NONE);
        due(g.summer(0, 0), NONE);
        due(g.summer(0, 5), NONE);
        due(g.summer(1, 0), NONE);
    }

    static void promise15_fiveDaysCanBe() {
        summer(laid(HOOK + "b0,0,0;h9;"), 0, 5, 1, 2, 3);
    }

    static void promise15_sixDaysAreNone() {
        SheepChess g = laid(HOOK + "b0,1,0;h9;");
        due(g.summer(1, -1), NONE);
        due(g.summer(1, 0), NONE);
        rest(g, 1);
        summer(g, 1, 5, 1, 2, 3);
    }

    static void promise15_itsOwnFirstDayMayBeTheSecond() {
        SheepChess g = laid("r000;b0,1,0;w2;");
        summer(g, 1, 2, 1);
        rest(g, 1);
        summer(g, 1, 1, 1);
    }

    static void promise15_nobodyOfItStarves() {
        summer(laid(HOOK + "b0,0,0;h5;"), 0, 5, 1, 2, 3);
        due(laid(HOOK + "b0,0,0;h4;").summer(0, -1), NONE);
        due(laid(HOOK + "b0,0,0;b1,0,12;h4;").summer(0, -1), NONE);
    }

    static void promise15_whoStarvesOnTheLastDayStarvesInTheseDays() {
        SheepChess g = laid("r000;b0,0,0;w2;h1;");
        rest(g, 1);
        due(g.summer(0, -1), NONE);
        g.undo();
        summer(g, 0, 1, 1);
        SheepChess ewe = laid("r010;r900;b0,0,1;b1,0,5;w0;h1;");
        summer(ewe, 0, 1, 3);
        rest(ewe, 2);
        due(ewe.summer(0, -1), NONE);
    }

    static void promise15_anotherOfItStarvesTooEarly() {
        SheepChess g = laid("r2000;r9990;r0000;r0999;b0,0,0;b1,0,12;w8;h5;");
        rest(g, 2);
        due(g.summer(0, -1), NONE);
    }

    static void promise15_nobodyOfItStarvesWhileItRestsEither() {
        String inSnow = "r55;r99;r90;b0,0,0;b1,1,1;w1;s0;s0;s1;s0;s0;h2;";
        SheepChess g = laid(inSnow);
        rest(g, 2);
        summer(g, 0, 3, RESTING, 1);
        SheepChess starving = laid(inSnow + "b1,0,5;");
        rest(starving, 2);
        due(starving.summer(0, -1), NONE);
    }

    static void promise15_theOtherVillageMayStarve() {
        SheepChess g = laid("r2000;r9990;r0000;r0999;b0,0,0;b1,1,12;w8;h5;");
        rest(g, 2);
        summer(g, 0, 5, 1, 2, 3);
    }

    static void promise15_whereTheOtherKingStarvesNoDayGoesBy() {
        SheepChess g = laid("r2000;r9990;r0000;r0999;b0,0,0;b3,1,12;w8;h5;");
        rest(g, 2);
        due(g.summer(0, -1), NONE);
        SheepChess two = laid("r2000;r9990;r0000;r0999;b0,0,0;b3,1,12;b3,1,10;w8;h9;");
        due(two.summer(0, -1), NONE);
    }

    static void promise15_whereAVillageHasLost0DaysCanBe() {
        SheepChess g = lostBy1();
        summer(g, 0, 0);
        due(g.summer(1, -1), NONE);
        SheepChess away = laid("r000;r900;b0,0,0;b3,1,1;b1,1,5;w2;h9;");
        due(away.summer(0, -1), NONE);
        away.drive(0, EAST);
        due(away.count(7), 2);
        due(away.summer(0, -1), NONE);
    }

    static void promise15_takingTheKingOnTheWayEndsIt() {
        due(laid("r0000;b0,0,0;b3,1,1;w3;h9;").summer(0, -1), NONE);
        summer(laid("r0000;b0,0,0;b1,1,1;w3;h9;"), 0, 3, 1, 1);
    }

    static void promise15_takingTheKingOnTheWellIsInTime() {
        summer(laid("r0000;b0,0,0;b3,1,3;w3;h9;"), 0, 1, 1);
    }

    static void promise15_inSnowItTakesNobody() {
        SheepChess g = laid("r00;b0,0,0;b1,1,1;w1;s1;s0;s0;h9;");
        summer(g, 0, 3, RESTING, 1);
        due(laid("r00;b0,0,0;b1,1,1;w1;s1;h9;").summer(0, -1), NONE);
    }

    static void promise15_restingIsLastOfAll() {
        SheepChess g = laid("r009;r999;r000;b0,0,0;b1,1,1;b1,0,6;w1;s1;s0;s0;h9;");
        summer(g, 0, 3, 21, 1);
    }

    static void promise15_theLowestDriveComesFirst() {
        summer(laid("r000;r010;r000;b0,0,3;b0,0,1;w4;"), 0, 1, 1);
        summer(laid("r000;r010;r000;b0,0,1;b0,0,3;w4;"), 0, 1, 2);
        summer(laid(BARE + "b0,0,0;w8;"), 0, 3, 1, 2);
        summer(laid(BARE + "b0,0,8;w0;"), 0, 3, 0, 3);
    }

    static void promise15_fewerDaysComeAheadOfTheLowestDrive() {
        summer(laid("r000;r000;r000;b0,0,2;w0;"), 0, 1, 3);
        SheepChess g = laid("r0000;b0,0,0;b1,0,3;w1;h9;");
        summer(g, 0, 3, 13, 1);
    }

    static void promise15_theSecondDayCountsWhereTheFirstIsTheSame() {
        summer(laid("r000;r050;r000;b0,0,3;b0,0,1;b1,0,4;w4;h9;"), 0, 3, 21, 1);
        summer(laid("r000;r050;r000;b0,0,1;b0,0,3;b1,0,4;w4;h9;"), 0, 3, 21, 2);
    }

    static void promise15_theOtherOneRests() {
        SheepChess g = laid("r000;r000;b0,0,0;b0,1,5;w2;h9;");
        summer(g, 0, 1, 1);
        summer(g, 1, 2, 10);
        SheepChess inWay = laid("r0000;r0000;r0000;b0,0,0;b1,1,7;w11;h9;");
        summer(inWay, 0, 3, 2, 1);
    }

    static void promise15_grassGrowsInTheseDays() {
        SheepChess held = laid("r8000;b0,0,0;w1;h9;");
        due(held.summer(0, -1), NONE);
        rest(held, 8);
        summer(held, 0, 3, RESTING, 1);
    }

    static void promise15_nothingChanges() {
        SheepChess g = laid(HOOK + "b0,0,0;h9;");
        stays(g, () -> g.summer(0, -1), 5);
        stays(g, () -> g.summer(0, 1), 2);
    }

    // ---- promise 16: game

    static void promise16_nIs1To3() {
        SheepChess g = laid("r00;b1,0,0;");
        stays(g, () -> g.game(0, 0), BAD);
        due(g.game(0, 1), BAD);
        due(g.game(1, 0), 103);
        due(g.game(3, 0), 103);
        due(g.game(4, 0), BAD);
        due(g.game(4, 1), BAD);
        due(g.game(-1, 0), BAD);
        due(g.game(Integer.MAX_VALUE, 0), BAD);
    }

    static void promise16_whatIs0Or1() {
        SheepChess g = laid("r00;b1,0,0;");
        due(g.game(1, 1), 1);
        due(g.game(1, 2), BAD);
        due(g.game(1, -1), BAD);
    }

    static void promise16_behindALostKingIsNo() {
        SheepChess g = lostBy1();
        stays(g, () -> g.game(1, 0), NO);
        due(g.game(1, 1), NO);
        due(g.game(3, 0), NO);
    }

    static void promise16_badComesAheadOfNo() {
        SheepChess g = lostBy1();
        due(g.game(0, 0), BAD);
        due(g.game(4, 0), BAD);
        due(g.game(1, 2), BAD);
        due(g.game(1, -1), BAD);
    }

    static void promise16_whoCanNotBeDrivenRests() {
        SheepChess g = laid("r0;b1,0,0;");
        game(g, 1, 103, RESTING);
        game(g, 3, 103, RESTING);
        SheepChess none = laid("r00;b1,1,0;");
        game(none, 1, 97, RESTING);
    }

    static void promise16_theLowestOfTheBestIsFirst() {
        game(laid(BARE + "b1,0,4;"), 1, 103, 0);
        game(laid(BARE + "b1,0,0;"), 1, 103, 1);
        game(laid(BARE + "b1,0,4;b1,1,3;b1,1,5;"), 1, 100, 1);
        SheepChess second = laid("r0000;b1,1,3;b1,0,2;b1,0,1;");
        game(second, 1, 106, 11);
    }

    static void promise16_theEighthBeastIsDrivenWestToo() {
        String rows = "r000999;r999900;r999900;r999900;b1,1,0;b1,1,2;b2,0,10;b2,0,11;b2,0,16;b2,0,17;";
        game(laid(rows + "b2,0,22;b1,0,1;"), 1, 105, 71);
        game(laid(rows + "b1,0,1;b2,0,22;"), 1, 105, 61);
        String west = "r000999;r999900;r999900;r999900;b3,1,0;b1,1,2;b2,0,10;b2,0,11;b2,0,16;b2,0,17;";
        game(laid(west + "b2,0,22;b1,0,1;"), 1, 105, 73);
        game(laid(west + "b1,0,1;b2,0,22;"), 1, 105, 63);
    }

    static void promise16_restingIsLast() {
        game(laid("r00;b1,0,1;"), 1, 103, 3);
        game(laid("r00;b1,0,1;"), 2, 103, 3);
    }

    static void promise16_restingMayBeBest() {
        SheepChess g = laid("r090;r000;b1,0,0;b0,1,5;");
        game(g, 1, 98, 2);
        game(g, 2, 98, RESTING);
    }

    static void promise16_village1DrivesSoThatWorthIsLeast() {
        SheepChess g = laid("r000;b1,0,0;b1,1,1;b1,0,2;");
        rest(g, 1);
        game(g, 1, 100, 11);
        game(g, 2, 100, 11);
    }

    static void promise16_worthIsThatBehindTheDays() {
        game(laid("r00;b1,0,0;h1;"), 1, 103, 1);
        SheepChess g = laid("r00;b1,0,0;h1;");
        rest(g, 1);
        game(g, 1, 100, RESTING);
        SheepChess even = laid("r01;b1,0,0;h1;");
        game(even, 2, 103, 1);
        game(even, 3, 100, 1);
    }

    static void promise16_whereAKingIsTakenItEnds() {
        SheepChess g = laid("r0000;b3,1,1;b1,0,0;b0,1,3;h9;");
        game(g, 1, 98, 11);
        game(g, 2, 98, 11);
        game(g, 3, 98, 11);
        SheepChess least = laid("r0000;b3,0,1;b1,1,0;b0,0,3;h9;");
        rest(least, 1);
        game(least, 1, 102, 11);
        game(least, 2, 102, 11);
        game(least, 3, 102, 11);
    }

    static void promise16_whereAKingStarvesItEnds() {
        SheepChess g = laid("r0955;r9995;b3,1,0;b1,0,3;b1,1,2;b0,0,7;h1;");
        rest(g, 1);
        game(g, 1, 102, 21);
        game(g, 2, 102, 21);
        game(g, 3, 102, 21);
    }

    static void promise16_inSnowNobodyIsTaken() {
        SheepChess g = laid("r00;b1,0,0;b1,1,1;h9;s1;s0;");
        game(g, 1, 100, RESTING);
        game(g, 2, 97, RESTING);
    }

    static void promise16_aPawnThatTurnsIsWorth3() {
        game(laid("r0;r0;b2,0,1;"), 1, 103, 0);
        SheepChess g = laid("r0;r0;b2,1,0;");
        rest(g, 1);
        game(g, 1, 97, 2);
    }

    static void promise16_worthAnd100MayBeBelow0() {
        SheepChess g = laid("r000000;r000000;b3,1,0;b3,1,1;b3,1,2;b3,1,3;b3,1,4;b3,1,5;b3,1,6;b1,0,11;");
        game(g, 1, -17, 70);
        SheepChess all = laid("r0000;r0000;b3,1,0;b3,1,1;b3,1,2;b3,1,3;b3,1,4;b3,1,5;");
        due(all.game(1, 0), -20);
    }

    static void promise16_eachKindHasItsWorth() {
        int[] worth = {5, 3, 1, 20};
        for (int kind = 0; kind < 4; kind++) {
            due(laid("r9;r9;r0;b" + kind + ",0,2;").game(1, 0), 100 + worth[kind]);
            due(laid("r0;r9;r9;b" + kind + ",1,0;").game(1, 0), 100 - worth[kind]);
        }
    }

    static void promise16_nothingChanges() {
        SheepChess g = laid("r000;b1,0,0;b1,1,1;b3,0,2;");
        stays(g, () -> g.game(3, 0), 123);
        stays(g, () -> g.game(2, 1), 1);
    }

    // ---- promise 17: again

    static void promise17_squaresThatAreNotAreBad() {
        SheepChess g = laid("r009;b1,0,0;");
        stays(g, () -> g.again(-1), BAD);
        due(g.again(3), BAD);
        due(g.again(NONE), BAD);
        due(g.again(Integer.MIN_VALUE), BAD);
        due(g.again(Integer.MAX_VALUE), BAD);
    }

    static void promise17_aBogIsNo() {
        SheepChess g = laid("r009;b1,0,0;");
        stays(g, () -> g.again(2), NO);
    }

    static void promise17_whereThereIsGrassIs0() {
        SheepChess g = laid("r180;b1,0,0;h9;");
        due(g.again(0), 0);
        due(g.again(1), 0);
        rest(g, 1);
        due(g.again(0), 17);
    }

    static void promise17_aBareSquareHasGrassOnTheNinthDay() {
        SheepChess g = laid("r00;b1,0,0;h9;");
        due(g.again(1), 9);
        rest(g, 8);
        due(g.again(1), 1);
        rest(g, 1);
        due(g.again(1), 0);
    }

    static void promise17_onTheNinthDayThatOneIsGone() {
        SheepChess g = laid("r100;b1,0,0;b1,0,2;h9;");
        rest(g, 9);
        due(g.count(3), 9);
        due(g.again(0), 9);
    }

    static void promise17_underABeastItGrowsAsSoonAsThatHasStarved() {
        due(laid("r0;b1,0,0;h8;").again(0), 9);
        due(laid("r0;b1,0,0;h9;").again(0), 18);
        due(laid("r8;b1,0,0;h9;").again(0), 0);
        due(laid("r0;b1,0,0;h1;").again(0), 9);
    }

    static void promise17_whoeverHasLost() {
        SheepChess g = lostBy1();
        due(g.again(0), 8);
        due(g.again(1), 17);
    }

    static void promise17_nothingChanges() {
        SheepChess g = laid("r00;b1,0,0;h3;");
        stays(g, () -> g.again(0), 9);
    }

    // ---- promise 18: starves

    static void promise18_beastsThatAreNotAreBad() {
        SheepChess g = laid("r00;b1,0,0;b1,1,1;");
        stays(g, () -> g.starves(-1), BAD);
        due(g.starves(2), BAD);
        due(g.starves(8), BAD);
        due(g.starves(Integer.MAX_VALUE), BAD);
    }

    static void promise18_offTheMeadowIsNo() {
        SheepChess g = laid("r00;b1,0,0;b1,1,1;h1;");
        g.drive(0, EAST);
        stays(g, () -> g.starves(1), NO);
        rest(g, 1);
        due(g.starves(0), NO);
    }

    static void promise18_behindADayAtLeast() {
        SheepChess g = laid("r0;b1,0,0;h1;");
        due(g.starves(0), 2);
        rest(g, 1);
        due(g.starves(0), 1);
    }

    static void promise18_behindMoreThanH() {
        for (int h = 1; h <= 9; h++) {
            due(laid("r0;b1,0,0;h" + h + ";").starves(0), h + 1);
        }
    }

    static void promise18_allItsGrassComesFirst() {
        due(laid("r1;b1,0,0;h1;").starves(0), 3);
        due(laid("r8;b1,0,0;h9;").starves(0), 18);
    }

    static void promise18_itsGrassDoesNotGrow() {
        SheepChess g = laid("r0;b1,0,0;h9;");
        rest(g, 5);
        due(g.starves(0), 5);
    }

    static void promise18_whoeverHasLost() {
        SheepChess g = lostBy1();
        due(g.starves(0), 9);
        due(g.starves(3), 9);
        due(g.starves(1), NO);
    }

    static void promise18_nothingChanges() {
        SheepChess g = laid("r10;b1,0,0;h3;");
        stays(g, () -> g.starves(0), 5);
    }
}
