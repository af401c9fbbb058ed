/** Promises 6 to 12: each sentence that names a boundary of SQUARES, BEASTS, WAYS, DAYS and what is UNDONE. */
public final class DayEdgeTests extends Edges {
    private static final String BARE = "r000;r000;r000;";

    public static void main(String[] args) {
        run(DayEdgeTests.class);
    }

    /** Village 1 has lost its king; an ewe of each village is left beside the one that took it. */
    private static SheepChess lostBy1() {
        SheepChess g = laid("r000;r000;b1,0,0;b3,1,1;b1,0,5;b1,1,3;h9;");
        due(g.drive(0, EAST), 1);
        due(g.count(7), 2);
        return g;
    }

    private static SheepChess lostBy0() {
        SheepChess g = laid("r000;r000;b1,1,0;b3,0,1;b1,1,5;b1,0,3;h9;");
        rest(g, 1);
        due(g.drive(0, EAST), 1);
        due(g.count(7), 1);
        return g;
    }

    // ---- promise 6: square

    static void promise06_aSquareBelow0IsBad() {
        SheepChess g = laid("r12;b1,0,0;");
        stays(g, () -> g.square(-1, 0), BAD);
        due(g.square(-1, 1), BAD);
        due(g.square(NONE, 1), BAD);
        due(g.square(Integer.MIN_VALUE, 0), BAD);
    }

    static void promise06_aSquareBehindTheLastIsBad() {
        SheepChess g = laid("r12;r34;b1,0,0;");
        due(g.square(3, 0), 4);
        due(g.square(4, 0), BAD);
        due(g.square(4, 1), BAD);
        due(g.square(35, 0), BAD);
        due(g.square(36, 0), BAD);
        due(g.square(Integer.MAX_VALUE, 1), BAD);
    }

    static void promise06_whatIs0Or1() {
        SheepChess g = laid("r12;b1,0,0;");
        due(g.square(0, 0), 1);
        due(g.square(0, 1), 0);
        due(g.square(0, -1), BAD);
        due(g.square(0, 2), BAD);
        due(g.square(2, 2), BAD);
    }

    static void promise06_grassIs0To8AndABog9() {
        SheepChess g = laid("r089;b1,0,0;");
        due(g.square(0, 0), 0);
        due(g.square(1, 0), 8);
        due(g.square(2, 0), 9);
    }

    static void promise06_nobodyIsNone() {
        SheepChess g = laid("r009;b1,1,0;");
        due(g.square(0, 1), 0);
        due(g.square(1, 1), NONE);
        due(g.square(2, 1), NONE);
    }

    static void promise06_whoIsOffTheMeadowIsOnNoSquare() {
        SheepChess taken = laid("r00;b1,1,1;b1,0,0;");
        taken.drive(1, EAST);
        due(taken.square(1, 1), 1);
        due(taken.square(0, 1), NONE);
        SheepChess starved = laid("r00;b1,1,1;h1;");
        rest(starved, 1);
        due(starved.square(1, 1), 0);
        rest(starved, 1);
        due(starved.square(1, 1), NONE);
    }

    // ---- promise 7: beast

    static void promise07_aBeastBelow0IsBad() {
        SheepChess g = laid("r12;b1,0,0;");
        stays(g, () -> g.beast(-1, 0), BAD);
        due(g.beast(NONE, 2), BAD);
        due(g.beast(Integer.MIN_VALUE, 2), BAD);
    }

    static void promise07_aBeastBehindTheLastIsBad() {
        SheepChess g = laid("r12;b1,0,0;b2,1,1;");
        due(g.beast(1, 0), 2);
        for (int what = 0; what < 4; what++) {
            due(g.beast(2, what), BAD);
            due(g.beast(8, what), BAD);
        }
        due(g.beast(Integer.MAX_VALUE, 0), BAD);
    }

    static void promise07_theEighthBeastIsTheLast() {
        SheepChess g = new SheepChess();
        due(g.beast(7, 2), 0);
        due(g.beast(8, 2), BAD);
    }

    static void promise07_whatIs0To3() {
        SheepChess g = laid("r00;b2,1,1;");
        rest(g, 1);
        due(g.beast(0, 0), 2);
        due(g.beast(0, 1), 1);
        due(g.beast(0, 2), 1);
        due(g.beast(0, 3), 1);
        due(g.beast(0, -1), BAD);
        due(g.beast(0, 4), BAD);
    }

    static void promise07_kindIsAsItIsNow() {
        SheepChess g = laid("r0;r0;b2,0,1;");
        due(g.beast(0, 0), 2);
        due(g.drive(0, NORTH), 0);
        due(g.beast(0, 0), 1);
        g.undo();
        due(g.beast(0, 0), 2);
    }

    static void promise07_offTheMeadowTheSquareIsNone() {
        SheepChess taken = laid("r00;b1,0,0;b2,1,1;");
        taken.drive(0, EAST);
        due(taken.beast(1, 2), NONE);
        due(taken.beast(1, 0), 2);
        due(taken.beast(1, 1), 1);
        SheepChess starved = laid("r0;b1,0,0;h1;");
        rest(starved, 2);
        due(starved.beast(0, 2), NONE);
        due(starved.beast(0, 0), 1);
        due(starved.beast(0, 1), 0);
    }

    static void promise07_hungerStaysAsItWasOffTheMeadow() {
        SheepChess g = laid("r001;b1,0,0;b1,1,1;h1;");
        rest(g, 2);
        due(g.beast(1, 3), 2);
        rest(g, 3);
        due(g.beast(1, 3), 2);
        SheepChess taken = laid("r001;b1,0,0;b1,1,1;h5;");
        rest(taken, 2);
        taken.drive(0, EAST);
        rest(taken, 1);
        due(taken.beast(1, 3), 2);
        due(taken.beast(0, 3), 4);
    }

    // ---- promise 8: goes

    static void promise08_beastsAndWaysThatAreNotAreBad() {
        SheepChess g = laid(BARE + "b1,0,4;b1,1,8;");
        stays(g, () -> g.goes(0, -1), BAD);
        due(g.goes(0, 4), BAD);
        due(g.goes(-1, 0), BAD);
        due(g.goes(2, 0), BAD);
        due(g.goes(0, Integer.MAX_VALUE), BAD);
        due(g.goes(Integer.MIN_VALUE, 0), BAD);
        due(g.goes(2, 4), BAD);
    }

    static void promise08_offTheMeadowIsNo() {
        SheepChess g = laid("r00;b1,0,0;b1,1,1;");
        g.drive(0, EAST);
        for (int way = 0; way < 4; way++) {
            due(g.goes(1, way), NO);
        }
        due(g.goes(1, 4), BAD);
        due(g.goes(1, -1), BAD);
        due(g.goes(2, 0), BAD);
    }

    static void promise08_whereTheMeadowEndsItCanNot() {
        SheepChess g = laid(BARE + "b1,0,0;b1,0,8;");
        due(g.goes(0, NORTH), NONE);
        due(g.goes(0, EAST), 1);
        due(g.goes(0, SOUTH), 3);
        due(g.goes(0, WEST), NONE);
        due(g.goes(1, NORTH), 5);
        due(g.goes(1, EAST), NONE);
        due(g.goes(1, SOUTH), NONE);
        due(g.goes(1, WEST), 7);
    }

    static void promise08_aRowDoesNotGoOnInTheNextOne() {
        SheepChess g = laid(BARE + "b1,0,2;b1,1,3;b0,0,5;b0,1,6;");
        due(g.goes(0, EAST), NONE);
        due(g.goes(1, WEST), NONE);
        due(g.goes(2, EAST), NONE);
        due(g.goes(3, WEST), NONE);
    }

    static void promise08_aRamGoesToTheEndOfTheMeadow() {
        SheepChess g = laid("r000000;".repeat(6) + "b0,0,0;b0,1,35;");
        due(g.goes(0, EAST), 5);
        due(g.goes(0, SOUTH), 30);
        due(g.goes(1, NORTH), 5);
        due(g.goes(1, WEST), 30);
        due(g.goes(0, NORTH), NONE);
        due(g.goes(1, SOUTH), NONE);
    }

    static void promise08_aRamStopsOnGrass() {
        SheepChess g = laid("r00100;b0,0,0;");
        due(g.goes(0, EAST), 2);
        due(laid("r01010;b0,0,0;").goes(0, EAST), 1);
        due(laid("r00080;b0,1,0;").goes(0, EAST), 3);
    }

    static void promise08_theGrassWhereItStandsHoldsNoRam() {
        due(laid("r30000;b0,0,0;").goes(0, EAST), 4);
    }

    static void promise08_aRamStopsAheadOfABog() {
        due(laid("r00090;b0,0,0;").goes(0, EAST), 2);
        due(laid("r09000;b0,0,0;").goes(0, EAST), NONE);
    }

    static void promise08_aRamStopsAheadOfItsOwn() {
        SheepChess g = laid("r00000;b0,0,0;b1,0,3;");
        due(g.goes(0, EAST), 2);
        due(laid("r00000;b0,0,0;b1,0,1;").goes(0, EAST), NONE);
    }

    static void promise08_aRamStopsOnTheFirstItTakes() {
        SheepChess g = laid("r000000;b0,0,0;b1,1,3;b1,1,4;");
        due(g.goes(0, EAST), 3);
        due(laid("r000000;b0,0,0;b1,1,1;").goes(0, EAST), 1);
    }

    static void promise08_aRamStopsAheadOfTheOtherInSnow() {
        due(laid("r00000;b0,0,0;b1,1,3;s1;").goes(0, EAST), 2);
        due(laid("r00000;b0,0,0;b1,1,1;s1;").goes(0, EAST), NONE);
    }

    static void promise08_anEweGoesOneStepAlone() {
        SheepChess g = laid("r00000;r00000;b1,0,2;");
        due(g.goes(0, EAST), 3);
        due(g.goes(0, WEST), 1);
        due(g.goes(0, SOUTH), 7);
    }

    static void promise08_nobodyGoesOnABog() {
        for (int kind = 0; kind < 4; kind++) {
            SheepChess g = laid("r090;r909;r090;b" + kind + ",0,4;");
            for (int way = 0; way < 4; way++) {
                due(g.goes(0, way), NONE);
            }
        }
    }

    static void promise08_nobodyGoesOnItsOwn() {
        for (int kind = 0; kind < 4; kind++) {
            SheepChess g = laid(BARE + "b" + kind + ",1,4;b1,1,1;b1,1,3;b1,1,5;b1,1,7;");
            for (int way = 0; way < 4; way++) {
                due(g.goes(0, way), NONE);
            }
        }
    }

    static void promise08_inSnowNobodyGoesOnTheOther() {
        for (int kind = 0; kind < 4; kind++) {
            SheepChess g = laid(BARE + "b" + kind + ",1,4;b1,0,1;b1,0,3;b1,0,5;b1,0,7;s1;");
            for (int way = 0; way < 4; way++) {
                due(g.goes(0, way), NONE);
            }
        }
    }

    static void promise08_withoutSnowAllButAPawnGoOnTheOther() {
        int[] to = {1, 5, 7, 3};
        for (int kind = 0; kind < 4; kind++) {
            SheepChess g = laid(BARE + "b" + kind + ",1,4;b1,0,1;b1,0,3;b1,0,5;b1,0,7;");
            for (int way = 0; way < 4; way++) {
                due(g.goes(0, way), kind == 2 ? NONE : to[way]);
            }
        }
    }

    static void promise08_bySnowOfThisDay() {
        SheepChess g = laid("r00;b1,0,0;b1,1,1;s0;s1;s0;");
        due(g.goes(0, EAST), 1);
        rest(g, 1);
        due(g.goes(0, EAST), NONE);
        rest(g, 1);
        due(g.goes(0, EAST), 1);
        g.undo();
        due(g.goes(0, EAST), NONE);
    }

    static void promise08_whoseverDayItIs() {
        SheepChess g = laid(BARE + "b1,0,0;b1,1,8;");
        due(g.goes(1, NORTH), 5);
        rest(g, 1);
        due(g.goes(0, SOUTH), 3);
        due(g.goes(1, NORTH), 5);
    }

    static void promise08_aPawnOf0GoesNorthAlone() {
        SheepChess g = laid(BARE + "b2,0,4;");
        due(g.goes(0, NORTH), 1);
        due(g.goes(0, EAST), NONE);
        due(g.goes(0, SOUTH), NONE);
        due(g.goes(0, WEST), NONE);
    }

    static void promise08_aPawnOf1GoesSouthAlone() {
        SheepChess g = laid(BARE + "b2,1,4;");
        due(g.goes(0, NORTH), NONE);
        due(g.goes(0, EAST), NONE);
        due(g.goes(0, SOUTH), 7);
        due(g.goes(0, WEST), NONE);
    }

    static void promise08_aPawnGoesOneStepAlone() {
        SheepChess g = laid(BARE + "b2,0,6;b2,1,2;");
        due(g.goes(0, NORTH), 3);
        due(g.goes(1, SOUTH), 5);
    }

    static void promise08_anEweThatWasAPawnGoesEachWay() {
        SheepChess g = laid(BARE + "b2,0,4;h9;");
        g.drive(0, NORTH);
        due(g.goes(0, EAST), 2);
        due(g.goes(0, SOUTH), 4);
        due(g.goes(0, WEST), 0);
        due(g.goes(0, NORTH), NONE);
    }

    static void promise08_aKingGoesOneStepAlone() {
        SheepChess g = laid("r0000;r0000;r0000;b3,0,5;");
        due(g.goes(0, NORTH), 1);
        due(g.goes(0, EAST), 6);
        due(g.goes(0, SOUTH), 9);
        due(g.goes(0, WEST), 4);
    }

    static void promise08_aKingGoesNotNextToARamOfTheOther() {
        SheepChess g = laid(BARE + "b3,0,4;b0,1,2;");
        due(g.goes(0, NORTH), NONE);
        due(g.goes(0, EAST), NONE);
        due(g.goes(0, SOUTH), 7);
        due(g.goes(0, WEST), 3);
        SheepChess other = laid(BARE + "b3,1,4;b0,0,6;");
        due(other.goes(0, NORTH), 1);
        due(other.goes(0, EAST), 5);
        due(other.goes(0, SOUTH), NONE);
        due(other.goes(0, WEST), NONE);
    }

    static void promise08_theRamMayBeBeast0AndOnSquare0() {
        SheepChess g = laid(BARE + "b0,1,0;b3,0,4;");
        due(g.goes(1, NORTH), NONE);
        due(g.goes(1, EAST), 5);
        due(g.goes(1, SOUTH), 7);
        due(g.goes(1, WEST), NONE);
    }

    static void promise08_inARowOfOneSquareNorthAndSouthAreNextTo() {
        SheepChess g = laid("r0;r0;r0;r0;r0;b3,0,1;b0,1,4;");
        due(g.goes(0, SOUTH), 2);
        due(g.goes(0, NORTH), 0);
        due(laid("r0;r0;r0;r0;r0;b3,0,1;b0,1,3;").goes(0, SOUTH), NONE);
    }

    static void promise08_aKingGoesNextToARamOfItsOwn() {
        SheepChess g = laid(BARE + "b3,1,4;b0,1,2;");
        due(g.goes(0, NORTH), 1);
        due(g.goes(0, EAST), 5);
    }

    static void promise08_aKingGoesNextToOthersThatAreNoRams() {
        SheepChess g = laid(BARE + "b3,0,4;b1,1,2;b2,1,0;b3,1,8;");
        due(g.goes(0, NORTH), 1);
        due(g.goes(0, EAST), 5);
        due(g.goes(0, SOUTH), 7);
        due(g.goes(0, WEST), 3);
    }

    static void promise08_cornerwiseIsNotNextTo() {
        SheepChess g = laid(BARE + "b3,0,1;b0,1,8;");
        due(g.goes(0, SOUTH), 4);
        due(laid(BARE + "b3,0,1;b0,1,7;").goes(0, SOUTH), NONE);
    }

    static void promise08_acrossTheRowsEndIsNotNextTo() {
        due(laid(BARE + "b3,0,1;b0,1,3;").goes(0, EAST), 2);
        due(laid(BARE + "b3,0,7;b0,1,5;").goes(0, WEST), 6);
    }

    static void promise08_twoAwayIsNotNextTo() {
        due(laid("r00000;b3,0,1;b0,1,4;").goes(0, EAST), 2);
        due(laid("r00000;b3,0,1;b0,1,3;").goes(0, EAST), NONE);
    }

    static void promise08_aKingGoesAwayFromARam() {
        SheepChess g = laid("r0000;b3,0,1;b0,1,2;");
        due(g.goes(0, WEST), 0);
    }

    static void promise08_aRamThatAKingTakesIsNotNextToItself() {
        due(laid("r000;b3,0,0;b0,1,1;").goes(0, EAST), 1);
        due(laid("r000;b3,0,0;b0,1,1;s1;").goes(0, EAST), NONE);
    }

    static void promise08_aKingTakesNobodyNextToAnotherRam() {
        due(laid("r000;b3,0,0;b0,1,1;b0,1,2;").goes(0, EAST), NONE);
        due(laid("r000;b3,0,0;b1,1,1;b0,1,2;").goes(0, EAST), NONE);
        due(laid("r000;b3,0,0;b0,1,1;b1,1,2;").goes(0, EAST), 1);
    }

    static void promise08_aRamOffTheMeadowKeepsNoKingAway() {
        SheepChess g = laid("r2000;b3,0,0;b0,1,2;h1;");
        due(g.goes(0, EAST), NONE);
        rest(g, 2);
        due(g.beast(1, 2), NONE);
        due(g.goes(0, EAST), 1);
        SheepChess corner = laid("r0200;r0000;b3,0,1;b0,1,2;h1;");
        rest(corner, 2);
        due(corner.beast(1, 2), NONE);
        due(corner.goes(0, WEST), 0);
        due(corner.goes(0, EAST), 2);
    }

    static void promise08_whoeverHasLost() {
        SheepChess g = lostBy1();
        due(g.goes(0, EAST), 2);
        due(g.goes(3, EAST), 4);
        due(g.goes(1, EAST), NO);
    }

    static void promise08_nothingChanges() {
        SheepChess g = laid("r000;b0,0,0;b1,1,1;");
        stays(g, () -> g.goes(0, EAST), 1);
        stays(g, () -> g.goes(1, EAST), 2);
    }

    // ---- promise 9: takes

    static void promise09_beastsAndWaysThatAreNotAreBad() {
        SheepChess g = laid("r00;b1,0,0;b1,1,1;");
        stays(g, () -> g.takes(0, -1), BAD);
        due(g.takes(0, 4), BAD);
        due(g.takes(-1, 0), BAD);
        due(g.takes(2, 0), BAD);
        due(g.takes(Integer.MAX_VALUE, Integer.MIN_VALUE), BAD);
    }

    static void promise09_offTheMeadowIsNo() {
        SheepChess g = laid("r00;b1,0,0;b1,1,1;");
        g.drive(0, EAST);
        for (int way = 0; way < 4; way++) {
            due(g.takes(1, way), NO);
        }
        due(g.takes(1, 4), BAD);
        due(g.takes(1, -1), BAD);
    }

    static void promise09_nobodyThereIsNone() {
        SheepChess g = laid("r0000;b1,0,1;b1,1,3;");
        due(g.takes(0, EAST), NONE);
        due(g.takes(0, WEST), NONE);
    }

    static void promise09_whereItCanNotGoIsNone() {
        SheepChess g = laid("r090;r000;b1,0,0;b1,0,3;");
        due(g.takes(0, NORTH), NONE);
        due(g.takes(0, EAST), NONE);
        due(g.takes(0, SOUTH), NONE);
        due(g.takes(0, WEST), NONE);
    }

    static void promise09_beast0IsTakenToo() {
        SheepChess g = laid("r00;b1,1,1;b1,0,0;");
        due(g.takes(1, EAST), 0);
        due(g.takes(0, WEST), 1);
    }

    static void promise09_inSnowNobodyIsTaken() {
        SheepChess g = laid("r000;b0,0,0;b1,1,2;s1;s0;");
        due(g.takes(0, EAST), NONE);
        due(g.takes(1, WEST), NONE);
        rest(g, 1);
        due(g.takes(0, EAST), 1);
    }

    static void promise09_aPawnTakesNobody() {
        SheepChess g = laid("r0;r0;b2,1,0;b2,0,1;");
        due(g.takes(0, SOUTH), NONE);
        due(g.takes(1, NORTH), NONE);
    }

    static void promise09_aRamTakesTheFirstBehindBareSquares() {
        SheepChess g = laid("r000000;b0,0,0;b1,1,5;b1,1,3;");
        due(g.takes(0, EAST), 2);
    }

    static void promise09_aRamTakesNobodyBehindGrass() {
        SheepChess g = laid("r001000;b0,0,0;b1,1,3;");
        due(g.takes(0, EAST), NONE);
        due(laid("r000100;b0,0,0;b1,1,3;").takes(0, EAST), 1);
    }

    static void promise09_aRamTakesNobodyBehindItsOwn() {
        due(laid("r000000;b0,0,0;b1,0,2;b1,1,3;").takes(0, EAST), NONE);
    }

    static void promise09_aKingTakesARamThatStandsAlone() {
        due(laid("r000;b3,0,0;b0,1,1;").takes(0, EAST), 1);
        due(laid("r000;b3,0,0;b0,1,1;b0,1,2;").takes(0, EAST), NONE);
    }

    static void promise09_whoeverHasLost() {
        SheepChess g = laid("r000;b1,0,0;b3,1,1;b1,1,2;");
        g.drive(0, EAST);
        due(g.takes(0, EAST), 2);
        due(g.takes(2, WEST), 0);
    }

    static void promise09_nothingChanges() {
        SheepChess g = laid("r000;b0,0,0;b1,1,1;");
        stays(g, () -> g.takes(0, EAST), 1);
    }

    // ---- promise 10: drive

    static void promise10_beastsAndWaysThatAreNotAreBad() {
        SheepChess g = laid("r000;b1,0,1;b1,1,2;");
        stays(g, () -> g.drive(-1, EAST), BAD);
        stays(g, () -> g.drive(2, EAST), BAD);
        stays(g, () -> g.drive(0, -1), BAD);
        stays(g, () -> g.drive(0, 4), BAD);
        due(g.drive(1, 4), BAD);
        due(g.drive(Integer.MIN_VALUE, Integer.MAX_VALUE), BAD);
    }

    static void promise10_badComesAheadOfNo() {
        SheepChess g = lostBy1();
        due(g.drive(4, EAST), BAD);
        due(g.drive(0, 4), BAD);
        due(g.drive(1, -1), BAD);
    }

    static void promise10_offTheMeadowIsNo() {
        SheepChess g = laid("r000;b1,0,0;b1,1,1;");
        g.drive(0, EAST);
        stays(g, () -> g.drive(1, EAST), NO);
    }

    static void promise10_onEvenDaysVillage1IsNotDriven() {
        SheepChess g = laid("r0000;b1,0,0;b1,1,3;");
        stays(g, () -> g.drive(1, WEST), NO);
        rest(g, 2);
        due(g.drive(1, WEST), NO);
        due(g.drive(0, EAST), 1);
    }

    static void promise10_onUnevenDaysVillage0IsNotDriven() {
        SheepChess g = laid("r0000;b1,0,0;b1,1,3;");
        rest(g, 1);
        stays(g, () -> g.drive(0, EAST), NO);
        due(g.drive(1, WEST), 2);
    }

    static void promise10_whereItCanNotGoIsNo() {
        SheepChess g = laid("r090;r000;b1,0,0;b1,0,3;b2,0,4;");
        stays(g, () -> g.drive(0, NORTH), NO);
        stays(g, () -> g.drive(0, EAST), NO);
        stays(g, () -> g.drive(0, SOUTH), NO);
        stays(g, () -> g.drive(0, WEST), NO);
    }

    static void promise10_aPawnThatWayIsNo() {
        SheepChess g = laid(BARE + "b2,0,4;b1,1,1;");
        for (int way = 0; way < 4; way++) {
            due(g.drive(0, way), NO);
        }
        due(g.count(3), 0);
    }

    static void promise10_inSnowNobodyIsTaken() {
        SheepChess g = laid("r00;b1,0,0;b1,1,1;h9;s1;s0;s0;");
        stays(g, () -> g.drive(0, EAST), NO);
        rest(g, 2);
        due(g.drive(0, EAST), 1);
        due(g.beast(1, 2), NONE);
    }

    static void promise10_behindALostKingNobodyIsDriven() {
        SheepChess g = lostBy1();
        stays(g, () -> g.drive(3, EAST), NO);
        SheepChess other = lostBy0();
        due(other.count(3), 2);
        stays(other, () -> other.drive(3, EAST), NO);
    }

    static void promise10_aKingThatStarvesIsLost() {
        SheepChess g = laid("r004;b3,0,0;b1,1,2;h1;");
        rest(g, 1);
        due(g.drive(1, WEST), 1);
        due(g.count(7), 1);
        due(g.drive(1, EAST), NO);
    }

    static void promise10_whoHasWonIsDrivenNoMoreEither() {
        SheepChess g = laid("r004;b3,1,0;b1,0,2;h1;");
        rest(g, 2);
        due(g.count(7), 2);
        stays(g, () -> g.drive(1, WEST), NO);
        due(g.rest(), NO);
        SheepChess other = laid("r0004;b3,0,0;b1,1,3;b1,0,1;h2;");
        rest(other, 3);
        due(other.count(7), 1);
        stays(other, () -> other.drive(1, WEST), NO);
        due(other.rest(), NO);
    }

    static void promise10_ofTwoKingsOneMayBeTaken() {
        SheepChess g = laid(BARE + "b1,0,0;b3,1,1;b3,1,8;");
        due(g.drive(0, EAST), 1);
        due(g.count(7), 0);
        due(g.drive(2, NORTH), 5);
    }

    static void promise10_whoNeverHadAKingLosesNever() {
        SheepChess g = laid("r000;b1,0,0;b1,1,1;b3,0,2;");
        due(g.drive(0, EAST), 1);
        due(g.count(5), 0);
        due(g.count(7), 0);
        due(g.rest(), 2);
        due(g.drive(0, WEST), 0);
    }

    static void promise10_itAnswersWhereItCameTo() {
        SheepChess g = laid("r000000;b0,0,0;b1,1,5;");
        due(g.drive(0, EAST), 5);
        due(g.beast(0, 2), 5);
        due(g.count(3), 1);
        due(g.count(10), 1);
    }

    static void promise10_itMayComeToSquare0() {
        SheepChess g = laid("r00;b1,0,1;");
        due(g.drive(0, WEST), 0);
        due(g.square(0, 1), 0);
        due(g.square(1, 1), NONE);
    }

    static void promise10_whoIsTakenIsOffTheMeadow() {
        SheepChess g = laid("r00000;b0,0,0;b1,1,3;b1,1,4;");
        due(g.drive(0, EAST), 3);
        due(g.beast(1, 2), NONE);
        due(g.beast(2, 2), 4);
        due(g.square(3, 1), 0);
        due(g.count(5), 1);
    }

    static void promise10_whoIsTakenGrazesNoMore() {
        SheepChess g = laid("r05;b1,0,0;b1,1,1;");
        due(g.drive(0, EAST), 1);
        due(g.square(1, 0), 4);
        due(g.beast(1, 3), 0);
    }

    static void promise10_aPawnOf0TurnsInTheFirstRow() {
        SheepChess g = laid("r0;r0;r0;b2,0,2;h9;");
        due(g.drive(0, NORTH), 1);
        due(g.beast(0, 0), 2);
        due(g.count(6), 101);
        rest(g, 1);
        due(g.drive(0, NORTH), 0);
        due(g.beast(0, 0), 1);
        due(g.count(6), 103);
        rest(g, 1);
        due(g.drive(0, SOUTH), 1);
        due(g.beast(0, 0), 1);
    }

    static void promise10_aPawnOf1TurnsInTheLastRow() {
        SheepChess g = laid("r00;r00;r00;b2,1,1;h9;");
        rest(g, 1);
        due(g.drive(0, SOUTH), 3);
        due(g.beast(0, 0), 2);
        due(g.count(6), 99);
        rest(g, 1);
        due(g.drive(0, SOUTH), 5);
        due(g.beast(0, 0), 1);
        due(g.count(6), 97);
    }

    static void promise10_aPawnOf1TurnsInTheFirstSquareOfTheLastRow() {
        SheepChess g = laid(BARE + "b2,1,3;");
        rest(g, 1);
        due(g.drive(0, SOUTH), 6);
        due(g.beast(0, 0), 1);
    }

    static void promise10_aPawnOf0TurnsInTheLastSquareOfTheFirstRow() {
        SheepChess g = laid(BARE + "b2,0,5;");
        due(g.drive(0, NORTH), 2);
        due(g.beast(0, 0), 1);
    }

    static void promise10_othersStayAsTheyAreInTheLastRows() {
        SheepChess g = laid("r0;r0;b0,0,1;b3,1,0;h9;");
        due(g.drive(0, NORTH), 0);
        due(g.beast(0, 0), 0);
        SheepChess king = laid("r0;r0;b3,0,1;");
        due(king.drive(0, NORTH), 0);
        due(king.beast(0, 0), 3);
    }

    static void promise10_itGrazesWhereItCameTo() {
        SheepChess g = laid("r23;b1,0,0;");
        due(g.drive(0, EAST), 1);
        due(g.square(0, 0), 2);
        due(g.square(1, 0), 2);
        due(g.beast(0, 3), 0);
    }

    static void promise10_theLastGrassIsEatenAndItIsNotHungry() {
        SheepChess g = laid("r1;b1,0,0;");
        rest(g, 1);
        due(g.square(0, 0), 0);
        due(g.beast(0, 3), 0);
        rest(g, 1);
        due(g.square(0, 0), 0);
        due(g.beast(0, 3), 1);
    }

    static void promise10_grassMakesItNotHungryAgain() {
        SheepChess g = laid("r01;b1,0,0;");
        rest(g, 2);
        due(g.beast(0, 3), 2);
        due(g.drive(0, EAST), 1);
        due(g.beast(0, 3), 0);
    }

    static void promise10_itStarvesBehindMoreThanH() {
        SheepChess g = laid("r0;b1,0,0;h2;");
        rest(g, 2);
        due(g.beast(0, 3), 2);
        due(g.beast(0, 2), 0);
        rest(g, 1);
        due(g.beast(0, 3), 3);
        due(g.beast(0, 2), NONE);
    }

    static void promise10_itStarvesOnTheDayItIsDriven() {
        SheepChess g = laid("r000;b1,0,0;h2;");
        rest(g, 2);
        due(g.drive(0, EAST), 1);
        due(g.beast(0, 2), NONE);
        due(g.square(1, 1), NONE);
    }

    static void promise10_grassGrowsOnTheNinthDayAlone() {
        SheepChess g = laid("r00;b1,0,0;h9;");
        rest(g, 8);
        due(g.square(1, 0), 0);
        rest(g, 1);
        due(g.square(1, 0), 1);
        rest(g, 8);
        due(g.square(1, 0), 1);
        rest(g, 1);
        due(g.square(1, 0), 2);
    }

    static void promise10_grassGrowsTo8AtMost() {
        SheepChess g = laid("r0789;b1,0,0;h9;");
        rest(g, 9);
        due(g.square(1, 0), 8);
        due(g.square(2, 0), 8);
        rest(g, 9);
        due(g.square(1, 0), 8);
        due(g.square(2, 0), 8);
    }

    static void promise10_aBogStaysABog() {
        SheepChess g = laid("r09;b1,0,0;h9;");
        rest(g, 9);
        due(g.square(1, 0), 9);
        due(g.count(8), 0);
    }

    static void promise10_whereABeastIsNoGrassGrows() {
        SheepChess g = laid("r009;b1,0,0;b1,1,1;h9;");
        rest(g, 9);
        due(g.square(0, 0), 0);
        due(g.square(1, 0), 0);
    }

    static void promise10_whereABeastComesThatDayNoGrassGrows() {
        SheepChess g = laid("r000;b1,0,0;h9;");
        rest(g, 8);
        due(g.drive(0, EAST), 1);
        due(meadow(g), " squares 1/-4 0/0 1/-4 beasts 1/0/1/9");
    }

    static void promise10_whereABeastStarvedThatDayGrassGrows() {
        SheepChess g = laid("r0;b1,0,0;h8;");
        rest(g, 8);
        due(g.beast(0, 2), 0);
        rest(g, 1);
        due(g.beast(0, 2), NONE);
        due(g.square(0, 0), 1);
    }

    // ---- promise 11: rest

    static void promise11_itAnswersWhichDayItIs() {
        SheepChess g = laid("r0;b1,0,0;");
        for (int day = 1; day <= 20; day++) {
            due(g.rest(), day);
            due(g.count(3), day);
        }
    }

    static void promise11_the512thCallIsAnswered() {
        SheepChess g = new SheepChess();
        write(g, "r0;b1,0,0;");
        due(g.lay(), 1);
        for (int day = 1; day <= 500; day++) {
            due(g.rest(), day);
        }
        due(g.count(3), 500);
    }

    static void promise11_behindALostKingNobodyRests() {
        SheepChess g = lostBy1();
        stays(g, g::rest, NO);
        SheepChess other = lostBy0();
        stays(other, other::rest, NO);
    }

    static void promise11_bothMayHaveLost() {
        SheepChess g = laid("r00;b3,0,0;b3,1,1;h1;");
        rest(g, 2);
        due(g.count(7), 3);
        stays(g, g::rest, NO);
    }

    static void promise11_restingAllGrazeAndStarve() {
        SheepChess g = laid("r012;b1,0,0;b1,1,1;b1,0,2;h1;");
        rest(g, 1);
        due(meadow(g), " squares 0/0 0/1 1/2 beasts 1/0/0/1 1/1/1/0 1/0/2/0");
        rest(g, 1);
        due(meadow(g), " squares 0/-4 0/1 0/2 beasts 1/0/-4/2 1/1/1/1 1/0/2/0");
    }

    static void promise11_withNobodyOnTheMeadowDaysGoBy() {
        SheepChess g = laid("r0;b1,0,0;h1;");
        rest(g, 2);
        due(g.count(4) + g.count(5), 0);
        due(g.rest(), 3);
    }

    // ---- promise 12: undo

    static void promise12_withoutADayItIsNo() {
        SheepChess g = laid("r12;b1,0,0;");
        stays(g, g::undo, NO);
    }

    static void promise12_itAnswersHowManyMoreCanBe() {
        SheepChess g = laid("r0;b1,0,0;");
        rest(g, 3);
        due(g.undo(), 2);
        due(g.undo(), 1);
        due(g.undo(), 0);
        due(g.undo(), NO);
        due(g.count(3), 0);
    }

    static void promise12_eightDaysCanBe() {
        SheepChess g = laid("r0;b1,0,0;");
        rest(g, 8);
        due(g.count(10), 8);
        for (int left = 7; left >= 0; left--) {
            due(g.undo(), left);
        }
        due(g.count(3), 0);
        due(g.undo(), NO);
    }

    static void promise12_aNinthDayCanNot() {
        SheepChess g = laid("r0;b1,0,0;");
        rest(g, 9);
        due(g.count(10), 8);
        for (int left = 7; left >= 0; left--) {
            due(g.undo(), left);
        }
        due(g.count(3), 1);
        stays(g, g::undo, NO);
    }

    static void promise12_theLastEightOfTwenty() {
        SheepChess g = laid("r0800;b1,0,0;h9;");
        String[] stood = new String[21];
        for (int day = 0; day < 20; day++) {
            stood[day] = meadow(g);
            if (day == 0 || day == 14) {
                due(g.drive(0, EAST), day == 0 ? 1 : 2);
            } else {
                due(g.rest(), day + 1);
            }
        }
        for (int day = 19; day >= 12; day--) {
            due(g.undo(), day - 12);
            due(meadow(g), stood[day]);
        }
        due(g.undo(), NO);
        due(g.count(3), 12);
    }

    static void promise12_allIsAsItStood() {
        SheepChess g = laid("r020;r000;r000;b1,0,1;b2,1,3;b1,1,4;h9;");
        String[] stood = new String[7];
        stood[0] = meadow(g);
        due(g.drive(0, SOUTH), 4);
        stood[1] = meadow(g);
        due(g.drive(1, SOUTH), 6);
        stood[2] = meadow(g);
        due(g.drive(0, NORTH), 1);
        stood[3] = meadow(g);
        due(g.drive(1, EAST), 7);
        stood[4] = meadow(g);
        due(g.rest(), 5);
        for (int day = 4; day >= 0; day--) {
            due(g.undo(), day);
            due(g.count(3), day);
            due(meadow(g), stood[day]);
        }
    }

    static void promise12_aNinthDaysGrassIsGoneAgain() {
        SheepChess g = laid("r00;b1,0,0;h9;");
        rest(g, 9);
        due(g.square(1, 0), 1);
        due(g.undo(), 7);
        due(g.square(1, 0), 0);
        due(g.rest(), 9);
        due(g.square(1, 0), 1);
    }

    static void promise12_theStarvedIsBack() {
        SheepChess g = laid("r0;b1,0,0;h1;");
        rest(g, 2);
        due(g.undo(), 1);
        due(g.beast(0, 2), 0);
        due(g.beast(0, 3), 1);
    }

    static void promise12_theLostKingIsBack() {
        SheepChess g = lostBy1();
        due(g.undo(), 0);
        due(g.count(7), 0);
        due(g.rest(), 1);
    }

    static void promise12_aRefusedDayIsNone() {
        SheepChess g = laid("r00;b1,0,0;b1,1,1;");
        g.rest();
        due(g.drive(0, EAST), NO);
        due(g.drive(1, 4), BAD);
        due(g.count(10), 1);
        due(g.undo(), 0);
        due(g.undo(), NO);
        SheepChess lost = lostBy1();
        lost.rest();
        lost.drive(3, EAST);
        due(lost.count(10), 1);
    }

    static void promise12_otherDaysMayFollow() {
        SheepChess g = laid("r000;b1,0,0;h9;");
        due(g.drive(0, EAST), 1);
        due(g.undo(), 0);
        rest(g, 2);
        due(g.drive(0, EAST), 1);
        due(g.count(10), 3);
        due(g.undo(), 2);
        due(g.beast(0, 2), 0);
        due(g.undo(), 1);
        due(g.undo(), 0);
        due(g.undo(), NO);
    }

    static void promise12_behindAnUndoneDayEightCanBeAgain() {
        SheepChess g = laid("r0;b1,0,0;h9;");
        rest(g, 10);
        due(g.undo(), 7);
        due(g.undo(), 6);
        rest(g, 3);
        due(g.count(10), 8);
        for (int left = 7; left >= 0; left--) {
            due(g.undo(), left);
        }
        due(g.count(3), 3);
        due(g.undo(), NO);
    }

    static void promise12_whatIsKeptAndTheTextStay() {
        SheepChess g = laid("r0;b1,0,0;");
        rest(g, 1);
        g.keep();
        write(g, "abc");
        due(g.undo(), 0);
        due(g.count(11), 1);
        due(g.count(12), 3);
    }
}
