/** Promises 23 to 30: wheels, spokes and following stars. */
public final class WheelsTest {
    private static final Checks CHECK = new Checks("WheelsTest");

    public static void main(String[] args) {
        promise23AddWheel();
        promises24And25Getters();
        promise26SpokeDirection();
        promise26OfAllPositions(59, 11);
        promise26OfAllPositions(8, 3);
        promise26OfAllPositions(60, 12);
        promises27And28Nearest();
        promises27And28Ties();
        promise29TeethToFollow();
        promise29Ties();
        promise30Follow();
        promise30FollowByNoTeethIsAChange();
        promise30FollowByOneTooth();
        promises27To30Exceptions();
        CHECK.end();
    }

    private static void promise23AddWheel() {
        GearObservatory x = GearsTest.withGears(20, 30);
        CHECK.noIndex("addWheel(-1, 4)", () -> x.addWheel(-1, 4));
        CHECK.noIndex("addWheel(2, 4)", () -> x.addWheel(2, 4));
        CHECK.noIndex("addWheel(2, 2): the index decides", () -> x.addWheel(2, 2));
        CHECK.badArgument("addWheel(0, 2)", () -> x.addWheel(0, 2));
        CHECK.badArgument("addWheel(0, 13)", () -> x.addWheel(0, 13));
        CHECK.badArgument("addWheel(0, -3)", () -> x.addWheel(0, -3));
        CHECK.same("addWheel(1, 3)", x.addWheel(1, 3), 0);
        CHECK.same("addWheel(0, 12)", x.addWheel(0, 12), 1);
        CHECK.same("addWheel(0, 5) on a gear with a wheel", x.addWheel(0, 5), 2);
        CHECK.same("addWheel(1, 6)", x.addWheel(1, 6), 3);
        CHECK.badState("addWheel beyond four", () -> x.addWheel(0, 4));
        CHECK.badArgument("addWheel(0, 13) beyond four: the argument decides", () -> x.addWheel(0, 13));
        CHECK.noIndex("addWheel(2, 4) beyond four: the index decides", () -> x.addWheel(2, 4));
    }

    private static void promises24And25Getters() {
        GearObservatory x = GearsTest.withGears(20, 30);
        CHECK.same("wheelCount() of none", x.wheelCount(), 0);
        CHECK.noIndex("gearOf(0) of none", () -> x.gearOf(0));
        x.addWheel(1, 4);
        x.addWheel(0, 4);
        CHECK.same("wheelCount()", x.wheelCount(), 2);
        CHECK.same("gearOf(0)", x.gearOf(0), 1);
        CHECK.same("gearOf(1)", x.gearOf(1), 0);
        CHECK.noIndex("gearOf(2)", () -> x.gearOf(2));
        CHECK.noIndex("gearOf(-1)", () -> x.gearOf(-1));
    }

    private static void promise26SpokeDirection() {
        GearObservatory x = GearsTest.withGears(20, 7 * 8);
        x.addWheel(0, 4);
        x.addWheel(1, 7);
        CHECK.same("spokeDirection(0, 0)", x.spokeDirection(0, 0), 0);
        CHECK.same("spokeDirection(0, 3)", x.spokeDirection(0, 3), 2700);
        x.turn(0, 4);
        CHECK.same("spokeDirection(0, 1)", x.spokeDirection(0, 1), 1620);
        x.turn(0, -5);
        CHECK.same("spokeDirection(0, 0) of position -1", x.spokeDirection(0, 0), 3420);
        CHECK.same("spokeDirection(0, 1) beyond the circle", x.spokeDirection(0, 1), 720);
        x.turn(1, 1);
        CHECK.same("spokeDirection(1, 6): 64 and 3085", x.spokeDirection(1, 6), 3149);
        x.turn(1, -2);
        CHECK.same("spokeDirection(1, 6): 3535 and 3085", x.spokeDirection(1, 6), 3020);
        CHECK.badArgument("spokeDirection(0, 4)", () -> x.spokeDirection(0, 4));
        CHECK.badArgument("spokeDirection(0, -1)", () -> x.spokeDirection(0, -1));
        CHECK.badArgument("spokeDirection(1, 7)", () -> x.spokeDirection(1, 7));
        CHECK.badArgument("spokeDirection(1, greatest int)", () -> x.spokeDirection(1, Integer.MAX_VALUE));
        CHECK.noIndex("spokeDirection(2, 9): the index decides", () -> x.spokeDirection(2, 9));
        CHECK.noIndex("spokeDirection(-1, 0)", () -> x.spokeDirection(-1, 0));
    }

    private static void promise26OfAllPositions(int teeth, int spokes) {
        for (int position = -99; position <= 99; position++) {
            GearObservatory x = GearsTest.withGears(teeth);
            x.addWheel(0, spokes);
            if (position != 0) {
                x.turn(0, position);
            }
            int angle = (position + 100 * teeth) % teeth;
            for (int spoke = 0; spoke < spokes; spoke++) {
                int due = (3600 * angle / teeth + 3600 * spoke / spokes) % 3600;
                CHECK.same("spokeDirection(0, " + spoke + ") at " + position, x.spokeDirection(0, spoke), due);
            }
        }
    }

    private static void promises27And28Nearest() {
        GearObservatory x = GearsTest.withGears(20);
        x.addWheel(0, 4);
        x.addStar(850, 0);
        x.addStar(3590, 0);
        x.addStar(1800, 0);
        CHECK.same("nearestSpoke(0, 0)", x.nearestSpoke(0, 0), 1);
        CHECK.same("distanceToStar(0, 0)", x.distanceToStar(0, 0), 50);
        CHECK.same("nearestSpoke(0, 1) across 0", x.nearestSpoke(0, 1), 0);
        CHECK.same("distanceToStar(0, 1) across 0", x.distanceToStar(0, 1), 10);
        CHECK.same("nearestSpoke(0, 2)", x.nearestSpoke(0, 2), 2);
        CHECK.same("distanceToStar(0, 2)", x.distanceToStar(0, 2), 0);
        x.turn(0, 1);
        CHECK.same("nearestSpoke(0, 0) at 180", x.nearestSpoke(0, 0), 1);
        CHECK.same("distanceToStar(0, 0) at 180", x.distanceToStar(0, 0), 230);
        CHECK.same("nearestSpoke(0, 1) at 180", x.nearestSpoke(0, 1), 0);
        CHECK.same("distanceToStar(0, 1) at 180", x.distanceToStar(0, 1), 190);
    }

    private static void promises27And28Ties() {
        GearObservatory x = GearsTest.withGears(20);
        x.addWheel(0, 4);
        x.addStar(450, 0);
        x.addStar(3150, 0);
        CHECK.same("nearestSpoke between 0 and 1", x.nearestSpoke(0, 0), 0);
        CHECK.same("distanceToStar between 0 and 1", x.distanceToStar(0, 0), 450);
        CHECK.same("nearestSpoke between 3 and 0", x.nearestSpoke(0, 1), 0);
        CHECK.same("distanceToStar between 3 and 0", x.distanceToStar(0, 1), 450);
        x.addStar(2250, 0);
        CHECK.same("nearestSpoke between 2 and 3", x.nearestSpoke(0, 2), 2);
    }

    private static void promise29TeethToFollow() {
        GearObservatory x = GearsTest.withGears(36);
        x.addWheel(0, 3);
        x.addStar(520, 0);
        CHECK.same("teethToFollow(0, 0)", x.teethToFollow(0, 0), 5);
        CHECK.same("position(0) is not turned by asking", x.position(0), 0);
        x.turn(0, 6);
        CHECK.same("teethToFollow(0, 0) by the spoke before", x.teethToFollow(0, 0), 11);
        x.turn(0, -1);
        CHECK.same("teethToFollow(0, 0) there", x.teethToFollow(0, 0), 0);
    }

    private static void promise29Ties() {
        GearObservatory x = GearsTest.withGears(36, 8, 60);
        x.addWheel(0, 12);
        x.addStar(50, 0);
        CHECK.same("teethToFollow of two as near: the smaller", x.teethToFollow(0, 0), 0);
        x.turn(0, -1);
        CHECK.same("teethToFollow of two as near ahead", x.teethToFollow(0, 0), 1);
        x.addWheel(1, 3);
        x.addStar(3599, 0);
        CHECK.same("teethToFollow with three spokes on eight teeth", x.teethToFollow(1, 1), 0);
        x.addWheel(2, 7);
        x.addStar(3300, 0);
        CHECK.same("teethToFollow of wheel 2", x.teethToFollow(2, 2), bestOf(60, 7, 0, 3300));
        x.turn(2, 25);
        CHECK.same("teethToFollow of wheel 2 turned", x.teethToFollow(2, 2), bestOf(60, 7, 25, 3300));
    }

    private static int bestOf(int teeth, int spokes, int position, int star) {
        int best = 0;
        int least = 3600;
        for (int more = 0; more < teeth; more++) {
            for (int spoke = 0; spoke < spokes; spoke++) {
                int points = (3600 * ((position + more) % teeth) / teeth + 3600 * spoke / spokes) % 3600;
                int distance = Math.abs(points - star);
                distance = distance > 1800 ? 3600 - distance : distance;
                if (distance < least) {
                    least = distance;
                    best = more;
                }
            }
        }
        return best;
    }

    private static void promise30Follow() {
        GearObservatory x = GearsTest.withGears(36, 20);
        x.mesh(0, 1, 2);
        x.addWheel(0, 3);
        x.addStar(524, 0);
        CHECK.same("follow(0, 0)", x.follow(0, 0), 24);
        CHECK.same("position(0) after follow", x.position(0), 5);
        CHECK.same("position(1) after follow: the gap was 0", x.position(1), -5);
        CHECK.same("turnedTeeth() after follow", x.turnedTeeth(), 10);
        CHECK.same("distanceToStar after follow", x.distanceToStar(0, 0), 24);
        int changes = x.undoCount();
        x.undo();
        CHECK.same("undo of follow is one change", x.undoCount(), changes - 1);
        CHECK.same("position(0) after undo of follow", x.position(0), 0);
        CHECK.same("position(1) after undo of follow", x.position(1), 0);
    }

    private static void promise30FollowByNoTeethIsAChange() {
        GearObservatory x = GearsTest.withGears(36);
        x.addWheel(0, 3);
        x.addStar(1200, 0);
        CHECK.same("follow(0, 0) by no teeth", x.follow(0, 0), 0);
        CHECK.same("turnedTeeth() after it", x.turnedTeeth(), 0);
        CHECK.same("undoCount() after it", x.undoCount(), 4);
    }

    private static void promise30FollowByOneTooth() {
        GearObservatory x = GearsTest.withGears(36);
        x.addWheel(0, 3);
        x.addStar(1300, 0);
        CHECK.same("follow(0, 0) by one tooth", x.follow(0, 0), 0);
        CHECK.same("position(0) after it", x.position(0), 1);
    }

    private static void promises27To30Exceptions() {
        GearObservatory x = GearsTest.withGears(36);
        x.addWheel(0, 3);
        x.addStar(5, 0);
        x.addStar(6, 0);
        x.removeStar(0);
        int changes = x.undoCount();
        CHECK.noIndex("nearestSpoke(1, 1)", () -> x.nearestSpoke(1, 1));
        CHECK.noIndex("nearestSpoke(-1, 0): the index decides", () -> x.nearestSpoke(-1, 0));
        CHECK.noElement("nearestSpoke(0, 0)", () -> x.nearestSpoke(0, 0));
        CHECK.noIndex("distanceToStar(1, 1)", () -> x.distanceToStar(1, 1));
        CHECK.noIndex("distanceToStar(-1, 0): the index decides", () -> x.distanceToStar(-1, 0));
        CHECK.noElement("distanceToStar(0, 2)", () -> x.distanceToStar(0, 2));
        CHECK.noIndex("teethToFollow(1, 1)", () -> x.teethToFollow(1, 1));
        CHECK.noIndex("teethToFollow(1, 9): the index decides", () -> x.teethToFollow(1, 9));
        CHECK.noElement("teethToFollow(0, -1)", () -> x.teethToFollow(0, -1));
        CHECK.noIndex("follow(1, 1)", () -> x.follow(1, 1));
        CHECK.noIndex("follow(-1, 9): the index decides", () -> x.follow(-1, 9));
        CHECK.noElement("follow(0, 0)", () -> x.follow(0, 0));
        CHECK.same("undoCount() after failed calls", x.undoCount(), changes);
        CHECK.same("position(0) after failed calls", x.position(0), 0);
    }
}
