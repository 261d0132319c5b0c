/** The boundary cases of promises 23 to 39, wheels and stars: one test for each sentence that names one. */
public final class SkyBoundariesTest {
    private static final Checks CHECK = new Checks("SkyBoundariesTest");
    private static final int LEAST = Integer.MIN_VALUE;
    private static final int MOST = Integer.MAX_VALUE;
    private static final int[] NO_WHEELS = {-1, 2, 4, LEAST, MOST};
    private static final int[] NO_STARS = {-1, 0, 3, 8, LEAST, MOST};

    public static void main(String[] args) {
        promise23NoSuchGear();
        promise23SpokesFrom3To12();
        promise23FourWheels();
        promise23TheListedFirstDecides();
        promise24NoneAndFour();
        promise25NoSuchWheel();
        promise26NoSuchWheel();
        promise26NoSuchSpoke();
        promise26TheListedFirstDecides();
        promise26AngleFrom0ToTeethLess1();
        promise26BothDivisionsAreRoundedDown();
        promise26ModuloTheCircle();
        promises27To30NoSuchWheel();
        promises27To30NoSuchStar();
        promises27To30TheListedFirstDecides();
        promises27And28SmallerWayAround();
        promise27SmallestNumberOfSeveral();
        promise28LeastAndMostDistance();
        promise29AtMostTeethLess1();
        promise29SmallestOfSeveral();
        promise30ByNoTeethAndByOne();
        promise30ByMostTeeth();
        promise30TurnsTheTrain();
        promise31DirectionFrom0To3599();
        promise31SpeedFromMinus50To50();
        promise31EightStars();
        promise31TheListedFirstDecides();
        promise31NoIdIsGivenAgain();
        promise32NoSuchStar();
        promise32TheLastStar();
        promise33NoneAndEight();
        promise34NoSuchPosition();
        promise34AscendingOrder();
        promise35NoSuchStar();
        promise36HoursFrom1To99();
        promise36AroundTheCircle();
        promise36WithoutStars();
        promises37And38HoursFrom0To99();
        promises37And38NoSuchStar();
        promises37And38TheListedFirstDecides();
        promises37And38AroundTheCircle();
        promise39DirectionFrom0To3599();
        promise39NoStars();
        promise39SmallestIdOfSeveral();
        promise39AcrossTheEndOfTheCircle();
        CHECK.end();
    }

    // ---- states ----

    /** Two gears in mesh, a wheel on each, and stars 1 and 2, as star 0 has been removed. */
    private static Trials withWheelsAndStars() {
        return new Trials(CHECK, "two wheels and two stars", x -> {
            x.addGear(20);
            x.addGear(36);
            x.mesh(0, 1, 2);
            x.turn(1, 3);
            x.addWheel(0, 4);
            x.addWheel(1, 3);
            x.addStar(5, 5);
            x.addStar(1700, -50);
            x.addStar(3599, 50);
            x.removeStar(0);
        });
    }

    private static void fourWheels(GearObservatory x) {
        x.addGear(20);
        x.addGear(30);
        x.addWheel(0, 3);
        x.addWheel(1, 12);
        x.addWheel(0, 12);
        x.addWheel(1, 3);
    }

    private static void eightStars(GearObservatory x) {
        for (int star = 0; star < 8; star++) {
            x.addStar(500 * star, 10 * star - 30);
        }
    }

    private static Trials withNothing() {
        return new Trials(CHECK, "nothing", x -> { });
    }

    private static GearObservatory wheel(int teeth, int spokes, int position) {
        GearObservatory x = GearsTest.withGears(teeth);
        x.addWheel(0, spokes);
        if (position != 0) {
            x.turn(0, position);
        }
        return x;
    }

    // ---- wheels ----

    private static void promise23NoSuchGear() {
        Trials on = withWheelsAndStars();
        for (int gear : new int[] {-1, 2, 10, LEAST, MOST}) {
            on.noIndex("addWheel(" + gear + ", 3)", x -> x.addWheel(gear, 3));
        }
        on.gives("addWheel(1, 3) on the last gear", 2, x -> x.addWheel(1, 3));
        withNothing().noIndex("addWheel(0, 3)", x -> x.addWheel(0, 3));
    }

    private static void promise23SpokesFrom3To12() {
        Trials on = withWheelsAndStars();
        for (int spokes : new int[] {2, 13, 0, -1, -3, 3 + 256, LEAST, MOST}) {
            on.badArgument("addWheel(0, " + spokes + ")", x -> x.addWheel(0, spokes));
        }
        for (int spokes = 3; spokes <= 12; spokes++) {
            GearObservatory x = GearsTest.withGears(8);
            int last = spokes - 1;
            CHECK.same("addWheel(0, " + spokes + ")", x.addWheel(0, spokes), 0);
            CHECK.same("its last spoke", x.spokeDirection(0, last), 3600 * last / spokes);
            CHECK.badArgument("the spoke beyond its last", () -> x.spokeDirection(0, last + 1));
        }
    }

    private static void promise23FourWheels() {
        GearObservatory x = GearsTest.withGears(20, 30);
        for (int wheel = 0; wheel < 4; wheel++) {
            CHECK.same("addWheel: index " + wheel, x.addWheel(1 - wheel % 2, 3 + wheel), wheel);
        }
        for (int wheel = 0; wheel < 4; wheel++) {
            CHECK.same("gearOf(" + wheel + ") of four", x.gearOf(wheel), 1 - wheel % 2);
            CHECK.same("spoke 1 of wheel " + wheel, x.spokeDirection(wheel, 1), 3600 / (3 + wheel));
        }
        Trials on = new Trials(CHECK, "four wheels", SkyBoundariesTest::fourWheels);
        on.badState("addWheel(0, 3)", y -> y.addWheel(0, 3));
        on.badState("addWheel(1, 12)", y -> y.addWheel(1, 12));
        on.gives("addWheel(0, 5) after undo", 3, y -> {
            y.undo();
            return y.addWheel(0, 5);
        });
    }

    private static void promise23TheListedFirstDecides() {
        Trials on = new Trials(CHECK, "four wheels", SkyBoundariesTest::fourWheels);
        on.noIndex("addWheel(2, 2)", x -> x.addWheel(2, 2));
        on.noIndex("addWheel(-1, 13)", x -> x.addWheel(-1, 13));
        on.noIndex("addWheel(2, 3)", x -> x.addWheel(2, 3));
        on.badArgument("addWheel(0, 2)", x -> x.addWheel(0, 2));
        on.badArgument("addWheel(0, 13)", x -> x.addWheel(0, 13));
    }

    private static void promise24NoneAndFour() {
        withNothing().asks("wheelCount()", 0, x -> x.wheelCount());
        Trials on = new Trials(CHECK, "four wheels", SkyBoundariesTest::fourWheels);
        on.asks("wheelCount()", 4, x -> x.wheelCount());
        on.asks("wheelCount() after a refused wheel", 4, x -> {
            Trials.quietly(x, y -> y.addWheel(0, 3));
            return x.wheelCount();
        });
    }

    private static void promise25NoSuchWheel() {
        Trials on = withWheelsAndStars();
        for (int wheel : NO_WHEELS) {
            on.noIndex("gearOf(" + wheel + ")", x -> x.gearOf(wheel));
        }
        on.asks("gearOf(0) of the first", 0, x -> x.gearOf(0));
        on.asks("gearOf(1) of the last", 1, x -> x.gearOf(1));
        withNothing().noIndex("gearOf(0)", x -> x.gearOf(0));
        new Trials(CHECK, "four wheels", SkyBoundariesTest::fourWheels).noIndex("gearOf(4)", x -> x.gearOf(4));
    }

    private static void promise26NoSuchWheel() {
        Trials on = withWheelsAndStars();
        for (int wheel : NO_WHEELS) {
            on.noIndex("spokeDirection(" + wheel + ", 0)", x -> x.spokeDirection(wheel, 0));
        }
        withNothing().noIndex("spokeDirection(0, 0)", x -> x.spokeDirection(0, 0));
    }

    private static void promise26NoSuchSpoke() {
        Trials on = withWheelsAndStars();
        for (int spoke : new int[] {-1, 4, 12, LEAST, MOST}) {
            on.badArgument("spokeDirection(0, " + spoke + ")", x -> x.spokeDirection(0, spoke));
        }
        on.badArgument("spokeDirection(1, 3): a wheel has its own spokes", x -> x.spokeDirection(1, 3));
        on.asks("spokeDirection(0, 3) of the last spoke", 3060 + 2700 - 3600, x -> x.spokeDirection(0, 3));
        on.asks("spokeDirection(1, 2) of the last spoke", 2700, x -> x.spokeDirection(1, 2));
    }

    private static void promise26TheListedFirstDecides() {
        Trials on = withWheelsAndStars();
        on.noIndex("spokeDirection(2, 4)", x -> x.spokeDirection(2, 4));
        on.noIndex("spokeDirection(-1, -1)", x -> x.spokeDirection(-1, -1));
    }

    private static void promise26AngleFrom0ToTeethLess1() {
        int[] positions = {0, 1, 7, 8, 9, 15, 16, 96, 99, -1, -7, -8, -9, -16, -96, -99};
        int[] angles = {0, 1, 7, 0, 1, 7, 0, 0, 3, 7, 1, 0, 7, 0, 0, 5};
        for (int i = 0; i < positions.length; i++) {
            GearObservatory x = wheel(8, 3, positions[i]);
            CHECK.same("spokeDirection at position " + positions[i], x.spokeDirection(0, 0), 450 * angles[i]);
        }
        GearObservatory far = wheel(60, 3, 0);
        for (int i = 0; i < 200; i++) {
            far.turn(0, -99);
        }
        CHECK.same("spokeDirection at position -19800", far.spokeDirection(0, 1), 1200);
        far.turn(0, -1);
        CHECK.same("spokeDirection at position -19801", far.spokeDirection(0, 1), 3540 - 2400);
    }

    private static void promise26BothDivisionsAreRoundedDown() {
        // 3600 / 7 is 514 and 2/7, 3600 / 11 is 327 and 3/11: rounded together they would give one more.
        GearObservatory x = wheel(49, 11, 27);
        CHECK.same("spokeDirection of 1983 and 33/49, 1309 and 1/11", x.spokeDirection(0, 4), 1983 + 1309);
        CHECK.same("spokeDirection of 1983 and 33/49, 981 and 9/11", x.spokeDirection(0, 3), 1983 + 981);
        CHECK.same("spokeDirection of 73 and 23/49", wheel(49, 3, 1).spokeDirection(0, 0), 73);
        CHECK.same("spokeDirection of 3526 and 26/49", wheel(49, 3, -1).spokeDirection(0, 0), 3526);
        CHECK.same("spokeDirection of 514 and 2/7", wheel(8, 7, 0).spokeDirection(0, 1), 514);
        CHECK.same("spokeDirection of 3085 and 5/7", wheel(8, 7, 0).spokeDirection(0, 6), 3085);
    }

    private static void promise26ModuloTheCircle() {
        CHECK.same("spokeDirection of 1800 and 1800", wheel(8, 4, 4).spokeDirection(0, 2), 0);
        CHECK.same("spokeDirection of 3150 and 450", wheel(8, 8, 7).spokeDirection(0, 1), 0);
        CHECK.same("spokeDirection of 3150 and 400", wheel(8, 9, 7).spokeDirection(0, 1), 3550);
        CHECK.same("spokeDirection of 3540 and 3300", wheel(60, 12, 59).spokeDirection(0, 11), 3240);
        CHECK.same("spokeDirection of 3538 and 61", wheel(59, 12, 58).spokeDirection(0, 11), 3238);
        for (int position = 0; position < 60; position++) {
            GearObservatory x = wheel(60, 12, position);
            for (int spoke = 0; spoke < 12; spoke++) {
                int direction = x.spokeDirection(0, spoke);
                CHECK.yes("spokeDirection from 0 to 3599: " + direction, direction >= 0 && direction < 3600);
            }
        }
    }

    private static void promises27To30NoSuchWheel() {
        Trials on = withWheelsAndStars();
        for (int wheel : NO_WHEELS) {
            on.noIndex("nearestSpoke(" + wheel + ", 1)", x -> x.nearestSpoke(wheel, 1));
            on.noIndex("distanceToStar(" + wheel + ", 1)", x -> x.distanceToStar(wheel, 1));
            on.noIndex("teethToFollow(" + wheel + ", 1)", x -> x.teethToFollow(wheel, 1));
            on.noIndex("follow(" + wheel + ", 1)", x -> x.follow(wheel, 1));
        }
    }

    private static void promises27To30NoSuchStar() {
        Trials on = withWheelsAndStars();
        for (int star : NO_STARS) {
            on.noElement("nearestSpoke(0, " + star + ")", x -> x.nearestSpoke(0, star));
            on.noElement("distanceToStar(0, " + star + ")", x -> x.distanceToStar(0, star));
            on.noElement("teethToFollow(0, " + star + ")", x -> x.teethToFollow(0, star));
            on.noElement("follow(0, " + star + ")", x -> x.follow(0, star));
        }
        Trials starless = new Trials(CHECK, "no stars", SkyBoundariesTest::fourWheels);
        starless.noElement("nearestSpoke(3, 0)", x -> x.nearestSpoke(3, 0));
        starless.noElement("distanceToStar(3, 0)", x -> x.distanceToStar(3, 0));
        starless.noElement("teethToFollow(3, 0)", x -> x.teethToFollow(3, 0));
        starless.noElement("follow(3, 0)", x -> x.follow(3, 0));
    }

    private static void promises27To30TheListedFirstDecides() {
        Trials on = withWheelsAndStars();
        on.noIndex("nearestSpoke(2, 0)", x -> x.nearestSpoke(2, 0));
        on.noIndex("distanceToStar(2, 0)", x -> x.distanceToStar(2, 0));
        on.noIndex("teethToFollow(2, 0)", x -> x.teethToFollow(2, 0));
        on.noIndex("follow(2, 0)", x -> x.follow(2, 0));
        withNothing().noIndex("follow(0, 0)", x -> x.follow(0, 0));
    }

    private static void nearest(GearObservatory x, int direction, int spoke, int distance) {
        int star = x.addStar(direction, 0);
        CHECK.same("nearestSpoke to " + direction, x.nearestSpoke(0, star), spoke);
        CHECK.same("distanceToStar at " + direction, x.distanceToStar(0, star), distance);
        x.removeStar(star);
    }

    private static void promises27And28SmallerWayAround() {
        GearObservatory x = wheel(36, 3, 0);
        nearest(x, 0, 0, 0);
        nearest(x, 3599, 0, 1);
        nearest(x, 3001, 0, 599);
        nearest(x, 2999, 2, 599);
        nearest(x, 599, 0, 599);
        nearest(x, 601, 1, 599);
        GearObservatory turned = wheel(36, 3, -1);
        nearest(turned, 0, 0, 100);
        nearest(turned, 3500, 0, 0);
        nearest(turned, 499, 0, 599);
        nearest(turned, 501, 1, 599);
        // The last of seven spokes points to 3085 and 5/7, rounded down.
        GearObservatory seven = wheel(8, 7, 0);
        nearest(seven, 3085, 6, 0);
        nearest(seven, 3086, 6, 1);
        nearest(seven, 3342, 6, 257);
        nearest(seven, 3343, 0, 257);
        nearest(seven, 257, 0, 257);
        nearest(seven, 258, 1, 256);
    }

    private static void promise27SmallestNumberOfSeveral() {
        GearObservatory x = wheel(36, 3, 0);
        nearest(x, 600, 0, 600);
        nearest(x, 1800, 1, 600);
        nearest(x, 3000, 0, 600);
        GearObservatory turned = wheel(36, 3, 24);
        nearest(turned, 3000, 0, 600);
        nearest(turned, 600, 1, 600);
        nearest(turned, 1800, 0, 600);
    }

    private static void promise28LeastAndMostDistance() {
        Trials on = withWheelsAndStars();
        on.asks("distanceToStar(0, 1)", 440, x -> x.distanceToStar(0, 1));
        on.asks("nearestSpoke(0, 1)", 2, x -> x.nearestSpoke(0, 1));
        on.asks("distanceToStar(1, 1)", 200, x -> x.distanceToStar(1, 1));
        on.asks("nearestSpoke(1, 1)", 1, x -> x.nearestSpoke(1, 1));
        GearObservatory x = wheel(8, 12, 0);
        nearest(x, 150, 0, 150);
        nearest(x, 3450, 0, 150);
        nearest(x, 3300, 11, 0);
    }

    private static void promise29AtMostTeethLess1() {
        for (int teeth = 8; teeth <= 60; teeth++) {
            // Three spokes never come to a direction again before a third of the circle.
            GearObservatory x = wheel(teeth, 3, 1);
            int star = x.addStar(0, 0);
            CHECK.yes("teethToFollow is below " + teeth, x.teethToFollow(0, star) < teeth);
            if (teeth % 3 == 0) {
                CHECK.same("teethToFollow of a third less 1", x.teethToFollow(0, star), teeth / 3 - 1);
            } else {
                CHECK.same("teethToFollow of " + teeth, x.teethToFollow(0, star), best(teeth, 3, 1, 0));
            }
        }
        GearObservatory all = wheel(8, 3, 1);
        all.addStar(0, 0);
        CHECK.same("teethToFollow by teeth - 1", all.teethToFollow(0, 0), 7);
    }

    /** By the words of the document: the distance after each number of teeth, and the first of the least. */
    private static int best(int teeth, int spokes, int position, int star) {
        int best = -1;
        int least = 3601;
        for (int more = 0; more < teeth; more++) {
            int angle = (position + more) % teeth;
            for (int spoke = 0; spoke < spokes; spoke++) {
                int direction = (3600 * angle / teeth + 3600 * spoke / spokes) % 3600;
                int way = Math.abs(direction - star);
                int distance = Math.min(way, 3600 - way);
                if (distance < least) {
                    least = distance;
                    best = more;
                }
            }
        }
        return best;
    }

    private static void promise29SmallestOfSeveral() {
        GearObservatory x = wheel(36, 12, 0);
        x.addStar(0, 0);
        CHECK.same("teethToFollow: all of 0, 3, 6 .. would do", x.teethToFollow(0, 0), 0);
        x.turn(0, 1);
        CHECK.same("teethToFollow: all of 2, 5, 8 .. would do", x.teethToFollow(0, 0), 2);
        GearObservatory between = wheel(36, 3, 0);
        between.addStar(50, 0);
        CHECK.same("teethToFollow: before and behind the star are as near", between.teethToFollow(0, 0), 0);
        between.turn(0, -5);
        CHECK.same("teethToFollow: of 5 and 6 the smaller", between.teethToFollow(0, 0), 5);
        GearObservatory far = wheel(36, 3, 2);
        far.addStar(150, 0);
        CHECK.same("teethToFollow 0 is as near as one tooth less", far.teethToFollow(0, 0), 0);
    }

    private static void promise30ByNoTeethAndByOne() {
        GearObservatory x = wheel(36, 3, 0);
        x.addStar(49, 0);
        int changes = x.undoCount();
        CHECK.same("follow by no teeth", x.follow(0, 0), 49);
        CHECK.same("position(0) after it", x.position(0), 0);
        CHECK.same("turnedTeeth() after it", x.turnedTeeth(), 0);
        CHECK.same("undoCount() after it: a successful call of follow", x.undoCount(), changes + 1);
        CHECK.same("follow again", x.follow(0, 0), 49);
        GearObservatory one = wheel(36, 3, 0);
        one.addStar(51, 0);
        CHECK.same("follow by one tooth", one.follow(0, 0), 49);
        CHECK.same("position(0) after one tooth", one.position(0), 1);
        CHECK.same("follow by no tooth more", one.follow(0, 0), 49);
        CHECK.same("position(0) stays after one tooth", one.position(0), 1);
    }

    private static void promise30ByMostTeeth() {
        GearObservatory x = wheel(8, 3, 1);
        x.addStar(0, 0);
        CHECK.same("follow by teeth - 1", x.follow(0, 0), 0);
        CHECK.same("position(0) after it", x.position(0), 8);
        GearObservatory most = wheel(59, 3, 1);
        most.addStar(0, 0);
        CHECK.same("teethToFollow by 58", most.teethToFollow(0, 0), 58);
        CHECK.same("follow by 58", most.follow(0, 0), 0);
        CHECK.same("position(0) after it", most.position(0), 59);
    }

    private static void promise30TurnsTheTrain() {
        Trials on = withWheelsAndStars();
        on.asks("teethToFollow(0, 1)", 2, x -> x.teethToFollow(0, 1));
        on.gives("follow(0, 1)", 80, x -> x.follow(0, 1));
        on.gives("position(1) after follow(0, 1)", 1, x -> {
            x.follow(0, 1);
            return x.position(1);
        });
        on.gives("turnedTeeth() after follow(0, 1)", 3 + 3 + 2 + 2, x -> {
            x.follow(0, 1);
            return x.turnedTeeth();
        });
        // The other wheel turns with its gear, so a second wheel on the train may lose its star.
        on.gives("distanceToStar(1, 1) after follow(0, 1)", 400, x -> {
            x.follow(0, 1);
            return x.distanceToStar(1, 1);
        });
    }

    // ---- stars ----

    private static void promise31DirectionFrom0To3599() {
        Trials on = withWheelsAndStars();
        for (int direction : new int[] {-1, 3600, -3600, 7200, LEAST, MOST}) {
            on.badArgument("addStar(" + direction + ", 0)", x -> x.addStar(direction, 0));
        }
        for (int direction : new int[] {0, 1, 1800, 3598, 3599}) {
            on.gives("direction(3) after addStar(" + direction + ", 0)", direction, x -> {
                x.addStar(direction, 0);
                return x.direction(3);
            });
        }
    }

    private static void promise31SpeedFromMinus50To50() {
        Trials on = withWheelsAndStars();
        for (int speed : new int[] {-51, 51, 256, LEAST, MOST}) {
            on.badArgument("addStar(0, " + speed + ")", x -> x.addStar(0, speed));
        }
        for (int speed : new int[] {-50, -1, 0, 1, 50}) {
            on.gives("direction after an hour of speed " + speed, 1800 + speed, x -> {
                x.addStar(1800, speed);
                x.passHours(1);
                return x.direction(3);
            });
        }
        on.badArgument("addStar(3600, 51)", x -> x.addStar(3600, 51));
    }

    private static void promise31EightStars() {
        GearObservatory x = new GearObservatory();
        for (int star = 0; star < 8; star++) {
            CHECK.same("addStar: id " + star, x.addStar(3599 - star, star), star);
        }
        for (int star = 0; star < 8; star++) {
            CHECK.same("direction(" + star + ") of eight", x.direction(star), 3599 - star);
        }
        Trials on = new Trials(CHECK, "eight stars", SkyBoundariesTest::eightStars);
        on.badState("addStar(0, 0)", y -> y.addStar(0, 0));
        on.badState("addStar(3599, 50)", y -> y.addStar(3599, 50));
        on.gives("addStar(0, 0) after undo", 7, y -> {
            y.undo();
            return y.addStar(0, 0);
        });
        for (int removed = 0; removed < 8; removed++) {
            int one = removed;
            on.gives("addStar(0, 0) after removeStar(" + removed + ")", 8, y -> {
                y.removeStar(one);
                return y.addStar(0, 0);
            });
        }
    }

    private static void promise31TheListedFirstDecides() {
        Trials on = new Trials(CHECK, "eight stars", SkyBoundariesTest::eightStars);
        on.badArgument("addStar(-1, 0)", x -> x.addStar(-1, 0));
        on.badArgument("addStar(3600, 0)", x -> x.addStar(3600, 0));
        on.badArgument("addStar(0, 51)", x -> x.addStar(0, 51));
        on.badArgument("addStar(0, -51)", x -> x.addStar(0, -51));
    }

    private static void promise31NoIdIsGivenAgain() {
        GearObservatory x = new GearObservatory();
        for (int star = 0; star < 100; star++) {
            CHECK.same("addStar after " + star + " removals", x.addStar(0, 0), star);
            x.removeStar(star);
        }
        Trials on = withWheelsAndStars();
        on.gives("addStar(0, 0) after all are removed", 3, y -> {
            y.removeStar(2);
            y.removeStar(1);
            return y.addStar(0, 0);
        });
        on.gives("addStar(0, 0) after a refused star", 3, y -> {
            Trials.quietly(y, z -> z.addStar(3600, 0));
            return y.addStar(0, 0);
        });
        on.gives("addStar(0, 0) after undo of a star", 3, y -> {
            y.addStar(0, 0);
            y.undo();
            return y.addStar(0, 0);
        });
        on.gives("addStar(0, 0) after undo of a removal", 3, y -> {
            y.undo();
            return y.addStar(0, 0);
        });
    }

    private static void promise32NoSuchStar() {
        Trials on = withWheelsAndStars();
        for (int star : NO_STARS) {
            on.noElement("removeStar(" + star + ")", x -> x.removeStar(star));
        }
        withNothing().noElement("removeStar(0)", x -> x.removeStar(0));
        withNothing().noElement("removeStar(-1)", x -> x.removeStar(-1));
    }

    private static void promise32TheLastStar() {
        Trials on = new Trials(CHECK, "one star", x -> x.addStar(7, 1));
        on.gives("removeStar(0)", 0, x -> x.removeStar(0));
        on.gives("starCount() after removeStar(0)", 0, x -> {
            x.removeStar(0);
            return x.starCount();
        });
        Trials eight = new Trials(CHECK, "eight stars", SkyBoundariesTest::eightStars);
        for (int star = 0; star < 8; star++) {
            int one = star;
            eight.gives("removeStar(" + star + ")", 7, x -> x.removeStar(one));
            eight.gives("last of the rest after removeStar(" + star + ")", star == 7 ? 6 : 7, x -> {
                x.removeStar(one);
                return x.star(6);
            });
            eight.gives("direction of the last after removeStar(" + star + ")", star == 7 ? 3000 : 3500, x -> {
                x.removeStar(one);
                return x.direction(x.star(6));
            });
            eight.gives("speed of the last after removeStar(" + star + ")", star == 7 ? 3030 : 3540, x -> {
                x.removeStar(one);
                return x.directionAfter(x.star(6), 1);
            });
        }
    }

    private static void promise33NoneAndEight() {
        withNothing().asks("starCount()", 0, x -> x.starCount());
        Trials on = new Trials(CHECK, "eight stars", SkyBoundariesTest::eightStars);
        on.asks("starCount()", 8, x -> x.starCount());
        on.asks("starCount() after a refused star", 8, x -> {
            Trials.quietly(x, y -> y.addStar(0, 0));
            return x.starCount();
        });
    }

    private static void promise34NoSuchPosition() {
        Trials on = withWheelsAndStars();
        for (int position : new int[] {-1, 2, 8, LEAST, MOST}) {
            on.noIndex("star(" + position + ")", x -> x.star(position));
        }
        withNothing().noIndex("star(0)", x -> x.star(0));
        withNothing().noIndex("star(-1)", x -> x.star(-1));
        new Trials(CHECK, "eight stars", SkyBoundariesTest::eightStars).noIndex("star(8)", x -> x.star(8));
    }

    private static void promise34AscendingOrder() {
        Trials on = withWheelsAndStars();
        on.asks("star(0)", 1, x -> x.star(0));
        on.asks("star(1)", 2, x -> x.star(1));
        GearObservatory x = Looks.made(SkyBoundariesTest::eightStars);
        x.removeStar(0);
        x.removeStar(7);
        x.removeStar(4);
        x.addStar(1, 1);
        int[] due = {1, 2, 3, 5, 6, 8};
        for (int position = 0; position < due.length; position++) {
            CHECK.same("star(" + position + ") in ascending order", x.star(position), due[position]);
        }
        CHECK.noIndex("star(6) beyond the last", () -> x.star(6));
    }

    private static void promise35NoSuchStar() {
        Trials on = withWheelsAndStars();
        for (int star : NO_STARS) {
            on.noElement("direction(" + star + ")", x -> x.direction(star));
        }
        on.asks("direction(1)", 1700, x -> x.direction(1));
        on.asks("direction(2)", 3599, x -> x.direction(2));
        withNothing().noElement("direction(0)", x -> x.direction(0));
    }

    private static void promise36HoursFrom1To99() {
        Trials on = withWheelsAndStars();
        for (int hours : new int[] {0, -1, 100, -99, 1000, LEAST, MOST}) {
            on.badArgument("passHours(" + hours + ")", x -> x.passHours(hours));
        }
        on.gives("passHours(1)", 1, x -> x.passHours(1));
        on.gives("passHours(99)", 99, x -> x.passHours(99));
        on.gives("passHours(99) after passHours(1)", 100, x -> {
            x.passHours(1);
            return x.passHours(99);
        });
        on.gives("passHours(1) after a refused call", 1, x -> {
            Trials.quietly(x, y -> y.passHours(100));
            return x.passHours(1);
        });
        GearObservatory x = new GearObservatory();
        for (int i = 1; i <= 500; i++) {
            CHECK.same("passHours(99), time " + i, x.passHours(99), 99 * i);
        }
    }

    private static void moves(int direction, int speed, int hours, int due) {
        String what = " from " + direction + " by " + speed + " for " + hours;
        GearObservatory x = new GearObservatory();
        x.addStar(direction, speed);
        CHECK.same("directionAfter" + what, x.directionAfter(0, hours), due);
        CHECK.same("directionAfterAtOnce" + what, x.directionAfterAtOnce(0, hours), due);
        CHECK.same("direction is not moved by asking" + what, x.direction(0), direction);
        if (hours > 0) {
            x.passHours(hours);
            CHECK.same("direction" + what, x.direction(0), due);
            GearObservatory single = new GearObservatory();
            single.addStar(direction, speed);
            for (int hour = 0; hour < hours; hour++) {
                single.passHours(1);
            }
            CHECK.same("direction hour by hour" + what, single.direction(0), due);
        }
    }

    private static void promise36AroundTheCircle() {
        moves(3599, 1, 1, 0);
        moves(3598, 1, 1, 3599);
        moves(3550, 50, 1, 0);
        moves(3551, 50, 1, 1);
        moves(0, -1, 1, 3599);
        moves(1, -1, 1, 0);
        moves(50, -50, 1, 0);
        moves(49, -50, 1, 3599);
        moves(0, -50, 1, 3550);
        moves(3599, -50, 99, 2249);
        moves(0, 50, 72, 0);
        moves(0, -50, 72, 0);
        moves(0, 50, 73, 50);
        moves(0, -50, 73, 3550);
    }

    private static void promise36WithoutStars() {
        Trials on = withNothing();
        on.gives("passHours(7)", 7, x -> x.passHours(7));
        on.gives("direction of a star added after hours", 3599, x -> {
            x.passHours(7);
            x.addStar(3599, 50);
            return x.direction(0);
        });
        on.gives("passHours(1) after undo", 1, x -> {
            x.passHours(7);
            x.undo();
            return x.passHours(1);
        });
    }

    private static void promises37And38HoursFrom0To99() {
        Trials on = withWheelsAndStars();
        for (int hours : new int[] {-1, 100, LEAST, MOST}) {
            on.badArgument("directionAfter(1, " + hours + ")", x -> x.directionAfter(1, hours));
            on.badArgument("directionAfterAtOnce(1, " + hours + ")", x -> x.directionAfterAtOnce(1, hours));
        }
        on.asks("directionAfter(1, 0)", 1700, x -> x.directionAfter(1, 0));
        on.asks("directionAfterAtOnce(1, 0)", 1700, x -> x.directionAfterAtOnce(1, 0));
        on.asks("directionAfter(1, 99)", 350, x -> x.directionAfter(1, 99));
        on.asks("directionAfterAtOnce(1, 99)", 350, x -> x.directionAfterAtOnce(1, 99));
    }

    private static void promises37And38NoSuchStar() {
        Trials on = withWheelsAndStars();
        for (int star : NO_STARS) {
            on.noElement("directionAfter(" + star + ", 1)", x -> x.directionAfter(star, 1));
            on.noElement("directionAfterAtOnce(" + star + ", 1)", x -> x.directionAfterAtOnce(star, 1));
        }
        withNothing().noElement("directionAfter(0, 0)", x -> x.directionAfter(0, 0));
        withNothing().noElement("directionAfterAtOnce(0, 0)", x -> x.directionAfterAtOnce(0, 0));
    }

    private static void promises37And38TheListedFirstDecides() {
        Trials on = withWheelsAndStars();
        on.noElement("directionAfter(0, -1)", x -> x.directionAfter(0, -1));
        on.noElement("directionAfter(3, 100)", x -> x.directionAfter(3, 100));
        on.noElement("directionAfterAtOnce(0, -1)", x -> x.directionAfterAtOnce(0, -1));
        on.noElement("directionAfterAtOnce(3, 100)", x -> x.directionAfterAtOnce(3, 100));
    }

    private static void promises37And38AroundTheCircle() {
        moves(3599, 0, 0, 3599);
        moves(0, 0, 99, 0);
        moves(3599, 50, 99, 1349);
        moves(0, -50, 99, 2250);
        moves(0, 50, 99, 1350);
        moves(3599, 1, 0, 3599);
        moves(3500, 1, 99, 3599);
        moves(3501, 1, 99, 0);
        moves(99, -1, 99, 0);
        moves(98, -1, 99, 3599);
    }

    private static void promise39DirectionFrom0To3599() {
        Trials on = withWheelsAndStars();
        for (int direction : new int[] {-1, 3600, LEAST, MOST}) {
            on.badArgument("nearestStar(" + direction + ")", x -> x.nearestStar(direction));
        }
        on.asks("nearestStar(0)", 2, x -> x.nearestStar(0));
        on.asks("nearestStar(3599)", 2, x -> x.nearestStar(3599));
    }

    private static void promise39NoStars() {
        Trials on = withNothing();
        on.noElement("nearestStar(0)", x -> x.nearestStar(0));
        on.noElement("nearestStar(3599)", x -> x.nearestStar(3599));
        on.badArgument("nearestStar(-1)", x -> x.nearestStar(-1));
        on.badArgument("nearestStar(3600)", x -> x.nearestStar(3600));
        Trials removed = new Trials(CHECK, "a removed star", x -> {
            x.addStar(0, 0);
            x.removeStar(0);
        });
        removed.noElement("nearestStar(0)", x -> x.nearestStar(0));
    }

    private static void promise39SmallestIdOfSeveral() {
        GearObservatory x = new GearObservatory();
        x.addStar(700, 0);
        x.addStar(100, 0);
        x.addStar(700, 0);
        CHECK.same("nearestStar(700) of two there", x.nearestStar(700), 0);
        CHECK.same("nearestStar(400) between 700 and 100", x.nearestStar(400), 0);
        CHECK.same("nearestStar(399)", x.nearestStar(399), 1);
        CHECK.same("nearestStar(2200) on the far side", x.nearestStar(2200), 0);
        x.removeStar(0);
        CHECK.same("nearestStar(400) after removal", x.nearestStar(400), 1);
        CHECK.same("nearestStar(700) after removal", x.nearestStar(700), 2);
    }

    private static void promise39AcrossTheEndOfTheCircle() {
        GearObservatory x = new GearObservatory();
        x.addStar(1000, 0);
        x.addStar(3400, 0);
        CHECK.same("nearestStar(0): 200 across the end", x.nearestStar(0), 1);
        CHECK.same("nearestStar(399): 599 across the end", x.nearestStar(399), 1);
        CHECK.same("nearestStar(400): 600 either way", x.nearestStar(400), 0);
        CHECK.same("nearestStar(2200): 1200 either way", x.nearestStar(2200), 0);
        CHECK.same("nearestStar(2201)", x.nearestStar(2201), 1);
        GearObservatory far = new GearObservatory();
        far.addStar(1800, 0);
        CHECK.same("nearestStar(0): 1800 is the farthest", far.nearestStar(0), 0);
    }
}
