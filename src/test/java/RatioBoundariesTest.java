/** The boundary cases of promises 18 to 22: one test for each sentence that names one. */
public final class RatioBoundariesTest {
    private static final Checks CHECK = new Checks("RatioBoundariesTest");
    private static final int[] NO_GEARS = {-1, 4, 10, Integer.MIN_VALUE, Integer.MAX_VALUE};

    public static void main(String[] args) {
        promises18To20TheSameGear();
        promises18To20EqualNumbersOfTeeth();
        promises18To20LeastAndMostTeeth();
        promises18To20NothingToReduce();
        promises18To20OddAndEvenChains();
        promises18To20WithoutRegardToGaps();
        promises18To20NoSuchGear();
        promises18To20NotConnected();
        promise20LongestProducts();
        promises21And22TheSameGear();
        promises21And22NoSlack();
        promises21And22EveryGap();
        promises21And22FreePlayEndsThere();
        promises21And22LongestPlay();
        promises21And22NoSuchGear();
        promises21And22NotConnected();
        CHECK.end();
    }

    /** Gears 0, 1 and 2 in a chain, gear 3 alone. */
    private static Trials withFour() {
        return new Trials(CHECK, "four gears", x -> {
            x.addGear(20);
            x.addGear(30);
            x.addGear(12);
            x.addGear(60);
            x.mesh(0, 1, 3);
            x.mesh(2, 1, 2);
            x.turn(0, -1);
        });
    }

    private static void ratio(GearObservatory x, int from, int to, int numerator, int denominator) {
        String pair = "(" + from + ", " + to + ") of " + x.teeth(from) + " and " + x.teeth(to);
        CHECK.same("ratioNumerator" + pair, x.ratioNumerator(from, to), numerator);
        CHECK.same("ratioDenominator" + pair, x.ratioDenominator(from, to), denominator);
        CHECK.same("ratioNumeratorByChain" + pair, x.ratioNumeratorByChain(from, to), numerator);
    }

    private static GearObservatory inMesh(int... teeth) {
        GearObservatory x = GearsTest.withGears(teeth);
        for (int gear = 1; gear < teeth.length; gear++) {
            x.mesh(gear - 1, gear, gear % 6);
        }
        return x;
    }

    private static void promises18To20TheSameGear() {
        for (int teeth = 8; teeth <= 60; teeth++) {
            ratio(GearsTest.withGears(teeth), 0, 0, 1, 1);
        }
        Trials on = withFour();
        for (int gear = 0; gear < 4; gear++) {
            int one = gear;
            on.asks("ratioNumerator of the same gear " + gear, 1, x -> x.ratioNumerator(one, one));
            on.asks("ratioDenominator of the same gear " + gear, 1, x -> x.ratioDenominator(one, one));
            on.asks("ratioNumeratorByChain of the same gear " + gear, 1, x -> x.ratioNumeratorByChain(one, one));
        }
    }

    private static void promises18To20EqualNumbersOfTeeth() {
        for (int teeth = 8; teeth <= 60; teeth++) {
            ratio(inMesh(teeth, teeth), 0, 1, -1, 1);
            ratio(inMesh(teeth, 59, teeth), 0, 2, 1, 1);
            ratio(inMesh(teeth, 60, teeth), 2, 0, 1, 1);
        }
    }

    private static void promises18To20LeastAndMostTeeth() {
        ratio(inMesh(8, 60), 0, 1, -2, 15);
        ratio(inMesh(8, 60), 1, 0, -15, 2);
        ratio(inMesh(60, 8, 60), 0, 2, 1, 1);
        ratio(inMesh(60, 30), 0, 1, -2, 1);
        ratio(inMesh(60, 30), 1, 0, -1, 2);
        ratio(inMesh(60, 10), 0, 1, -6, 1);
    }

    private static void promises18To20NothingToReduce() {
        ratio(inMesh(59, 60), 0, 1, -59, 60);
        ratio(inMesh(60, 59), 0, 1, -60, 59);
        ratio(inMesh(53, 8, 59), 0, 2, 53, 59);
        ratio(inMesh(8, 9), 0, 1, -8, 9);
    }

    private static void promises18To20OddAndEvenChains() {
        for (int from = 0; from < 10; from++) {
            GearObservatory x = inMesh(8, 8, 8, 8, 8, 8, 8, 8, 8, 8);
            for (int to = 0; to < 10; to++) {
                ratio(x, from, to, (from + to) % 2 == 0 ? 1 : -1, 1);
            }
        }
        // Which gears lie between decides the sign, not their indices.
        GearObservatory star = GearsTest.withGears(20, 10, 40, 30);
        star.mesh(3, 0, 1);
        star.mesh(1, 3, 1);
        star.mesh(3, 2, 1);
        ratio(star, 0, 1, 2, 1);
        ratio(star, 2, 0, 2, 1);
        ratio(star, 3, 2, -3, 4);
        ratio(star, 0, 3, -2, 3);
    }

    private static void promises18To20WithoutRegardToGaps() {
        GearObservatory x = GearsTest.withGears(20, 30, 12);
        x.mesh(0, 1, 5);
        x.mesh(1, 2, 5);
        for (int teeth = -99; teeth <= 99; teeth += 33) {
            if (teeth != 0) {
                x.turn(0, teeth);
            }
            ratio(x, 0, 1, -2, 3);
            ratio(x, 2, 0, 3, 5);
        }
    }

    private static void promises18To20NoSuchGear() {
        Trials on = withFour();
        for (int gear : NO_GEARS) {
            on.noIndex("ratioNumerator(" + gear + ", 0)", x -> x.ratioNumerator(gear, 0));
            on.noIndex("ratioNumerator(0, " + gear + ")", x -> x.ratioNumerator(0, gear));
            on.noIndex("ratioNumerator(" + gear + ", " + gear + ")", x -> x.ratioNumerator(gear, gear));
            on.noIndex("ratioDenominator(" + gear + ", 0)", x -> x.ratioDenominator(gear, 0));
            on.noIndex("ratioDenominator(0, " + gear + ")", x -> x.ratioDenominator(0, gear));
            on.noIndex("ratioDenominator(" + gear + ", " + gear + ")", x -> x.ratioDenominator(gear, gear));
            on.noIndex("ratioNumeratorByChain(" + gear + ", 0)", x -> x.ratioNumeratorByChain(gear, 0));
            on.noIndex("ratioNumeratorByChain(0, " + gear + ")", x -> x.ratioNumeratorByChain(0, gear));
            on.noIndex("ratioNumeratorByChain(" + gear + ", " + gear + ")", x -> x.ratioNumeratorByChain(gear, gear));
        }
        Trials nothing = new Trials(CHECK, "nothing", x -> { });
        nothing.noIndex("ratioNumerator(0, 0)", x -> x.ratioNumerator(0, 0));
        nothing.noIndex("ratioDenominator(0, 0)", x -> x.ratioDenominator(0, 0));
        nothing.noIndex("ratioNumeratorByChain(0, 0)", x -> x.ratioNumeratorByChain(0, 0));
    }

    private static void promises18To20NotConnected() {
        Trials on = withFour();
        on.noElement("ratioNumerator(0, 3)", x -> x.ratioNumerator(0, 3));
        on.noElement("ratioNumerator(3, 2)", x -> x.ratioNumerator(3, 2));
        on.noElement("ratioDenominator(0, 3)", x -> x.ratioDenominator(0, 3));
        on.noElement("ratioDenominator(3, 2)", x -> x.ratioDenominator(3, 2));
        on.noElement("ratioNumeratorByChain(0, 3)", x -> x.ratioNumeratorByChain(0, 3));
        on.noElement("ratioNumeratorByChain(3, 2)", x -> x.ratioNumeratorByChain(3, 2));
        GearObservatory parted = inMesh(20, 30, 40);
        parted.part(1, 2);
        CHECK.noElement("ratioNumerator(0, 2) after part", () -> parted.ratioNumerator(0, 2));
        CHECK.noElement("ratioDenominator(2, 1) after part", () -> parted.ratioDenominator(2, 1));
        CHECK.noElement("ratioNumeratorByChain(0, 2) after part", () -> parted.ratioNumeratorByChain(0, 2));
        ratio(parted, 0, 1, -2, 3);
    }

    /** Teeth without a common divisor make the products as long as they can be. */
    private static void promise20LongestProducts() {
        GearObservatory x = inMesh(59, 60, 53, 49, 47, 43, 41, 37, 31, 58);
        ratio(x, 0, 9, -59, 58);
        ratio(x, 9, 0, -58, 59);
        ratio(x, 8, 0, 31, 59);
        ratio(x, 1, 9, 30, 29);
        GearObservatory jumps = inMesh(60, 8, 60, 8, 60, 8, 60, 8, 60, 8);
        ratio(jumps, 0, 9, -15, 2);
        ratio(jumps, 9, 0, -2, 15);
        ratio(jumps, 0, 8, 1, 1);
    }

    private static void play(GearObservatory x, String when, int from, int to, int due) {
        String pair = "(" + from + ", " + to + ")" + when;
        CHECK.same("freePlay" + pair, x.freePlay(from, to), due);
        CHECK.same("freePlayByTurning" + pair, x.freePlayByTurning(from, to), due);
    }

    private static void promises21And22TheSameGear() {
        Trials on = withFour();
        for (int gear = 0; gear < 4; gear++) {
            int one = gear;
            on.asks("freePlay of the same gear " + gear, 0, x -> x.freePlay(one, one));
            on.asks("freePlayByTurning of the same gear " + gear, 0, x -> x.freePlayByTurning(one, one));
        }
    }

    private static void promises21And22NoSlack() {
        GearObservatory x = GearsTest.withGears(20, 30, 12);
        x.mesh(0, 1, 0);
        x.mesh(1, 2, 0);
        x.turn(1, 9);
        for (int from = 0; from < 3; from++) {
            for (int to = 0; to < 3; to++) {
                play(x, " without slack", from, to, 0);
            }
        }
    }

    private static void promises21And22EveryGap() {
        for (int slack = 0; slack <= 5; slack++) {
            for (int gap = 0; gap <= slack; gap++) {
                GearObservatory x = GearsTest.withGears(20, 30, 12);
                x.mesh(0, 1, slack);
                x.mesh(1, 2, 5);
                if (gap > 0) {
                    x.turn(0, -gap);
                }
                String when = " with gap " + gap + " of " + slack;
                play(x, when, 0, 1, gap);
                play(x, when, 1, 0, gap);
                play(x, when, 0, 2, gap + 5);
                play(x, when, 2, 0, slack - gap);
                play(x, when, 2, 1, 0);
            }
        }
    }

    /** By the free play the other gear stands, by one tooth more it turns. */
    private static void promises21And22FreePlayEndsThere() {
        for (int gap = 0; gap <= 5; gap++) {
            for (int more = 0; more < 2; more++) {
                GearObservatory x = GearsTest.withGears(20, 30, 12);
                x.mesh(0, 1, 5);
                x.mesh(2, 1, 4);
                x.turn(1, -6);
                if (gap > 0) {
                    x.turn(0, -gap);
                }
                int play = x.freePlay(0, 2);
                int before = x.position(2);
                if (play + more > 0) {
                    x.turn(0, play + more);
                }
                CHECK.same("position(2) after " + more + " more than its free play", x.position(2), before + more);
            }
        }
    }

    private static void promises21And22LongestPlay() {
        GearObservatory x = Looks.made(y -> GearBoundariesTest.chainOfTen(y, 5));
        play(x, " of a new chain", 0, 9, 20);
        x.turn(0, -50);
        play(x, " of full gaps ahead", 0, 9, 45);
        play(x, " of full gaps ahead", 9, 0, 45);
        play(x, " of full gaps ahead", 8, 0, 0);
        x.turn(9, 50);
        play(x, " of used gaps", 9, 0, 0);
        play(x, " of used gaps", 0, 9, 0);
        CHECK.same("turnedTeeth() is not turned by asking", x.turnedTeeth(), turnedOf(x));
    }

    private static int turnedOf(GearObservatory x) {
        GearObservatory twin = Looks.made(y -> GearBoundariesTest.chainOfTen(y, 5));
        twin.turn(0, -50);
        twin.turn(9, 50);
        CHECK.same("position(5) is not turned by asking", x.position(5), twin.position(5));
        return twin.turnedTeeth();
    }

    private static void promises21And22NoSuchGear() {
        Trials on = withFour();
        for (int gear : NO_GEARS) {
            on.noIndex("freePlay(" + gear + ", 0)", x -> x.freePlay(gear, 0));
            on.noIndex("freePlay(0, " + gear + ")", x -> x.freePlay(0, gear));
            on.noIndex("freePlay(" + gear + ", " + gear + ")", x -> x.freePlay(gear, gear));
            on.noIndex("freePlayByTurning(" + gear + ", 0)", x -> x.freePlayByTurning(gear, 0));
            on.noIndex("freePlayByTurning(0, " + gear + ")", x -> x.freePlayByTurning(0, gear));
            on.noIndex("freePlayByTurning(" + gear + ", " + gear + ")", x -> x.freePlayByTurning(gear, gear));
        }
        Trials nothing = new Trials(CHECK, "nothing", x -> { });
        nothing.noIndex("freePlay(0, 0)", x -> x.freePlay(0, 0));
        nothing.noIndex("freePlayByTurning(0, 0)", x -> x.freePlayByTurning(0, 0));
    }

    private static void promises21And22NotConnected() {
        Trials on = withFour();
        on.noElement("freePlay(0, 3)", x -> x.freePlay(0, 3));
        on.noElement("freePlay(3, 2)", x -> x.freePlay(3, 2));
        on.noElement("freePlayByTurning(0, 3)", x -> x.freePlayByTurning(0, 3));
        on.noElement("freePlayByTurning(3, 2)", x -> x.freePlayByTurning(3, 2));
        on.asks("freePlay(0, 2)", 3, x -> x.freePlay(0, 2));
        on.asks("freePlayByTurning(0, 2)", 3, x -> x.freePlayByTurning(0, 2));
    }
}
