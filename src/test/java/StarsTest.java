/** Promises 31 to 39: stars and hours. */
public final class StarsTest {
    private static final Checks CHECK = new Checks("StarsTest");

    public static void main(String[] args) {
        promise31AddStar();
        promises31And32Ids();
        promises32To35Stars();
        promise36PassHours();
        promises37And38Directions();
        promises37And38Exceptions();
        promise39NearestStar();
        CHECK.end();
    }

    private static void promise31AddStar() {
        GearObservatory x = new GearObservatory();
        CHECK.badArgument("addStar(-1, 0)", () -> x.addStar(-1, 0));
        CHECK.badArgument("addStar(3600, 0)", () -> x.addStar(3600, 0));
        CHECK.badArgument("addStar(0, 51)", () -> x.addStar(0, 51));
        CHECK.badArgument("addStar(0, -51)", () -> x.addStar(0, -51));
        CHECK.same("addStar(0, 50)", x.addStar(0, 50), 0);
        CHECK.same("addStar(3599, -50)", x.addStar(3599, -50), 1);
        for (int i = 2; i < 8; i++) {
            CHECK.same("addStar " + i, x.addStar(i, i), i);
        }
        CHECK.badState("addStar beyond eight", () -> x.addStar(0, 0));
        CHECK.badArgument("addStar(3600, 0) beyond eight: the argument decides", () -> x.addStar(3600, 0));
        CHECK.badArgument("addStar(0, 51) beyond eight: the argument decides", () -> x.addStar(0, 51));
        CHECK.same("starCount()", x.starCount(), 8);
        CHECK.same("removeStar(3)", x.removeStar(3), 7);
        CHECK.same("addStar after removal", x.addStar(9, 9), 8);
    }

    private static void promises31And32Ids() {
        GearObservatory x = new GearObservatory();
        for (int i = 0; i < 20; i++) {
            CHECK.same("addStar gives no id again", x.addStar(1, 1), i);
            CHECK.same("removeStar of the only one", x.removeStar(i), 0);
        }
        CHECK.badState("the history is not endless", () -> {
            for (int i = 0; i < 9; i++) {
                x.undo();
            }
            return 0;
        });
        CHECK.same("undo restores the id that is given next", x.addStar(1, 1), 16);
    }

    private static void promises32To35Stars() {
        GearObservatory x = new GearObservatory();
        CHECK.noElement("removeStar(0) of none", () -> x.removeStar(0));
        CHECK.noIndex("star(0) of none", () -> x.star(0));
        for (int i = 0; i < 5; i++) {
            x.addStar(100 * i, 0);
        }
        CHECK.same("removeStar(1)", x.removeStar(1), 4);
        CHECK.same("removeStar(4)", x.removeStar(4), 3);
        CHECK.noElement("removeStar(1) again", () -> x.removeStar(1));
        CHECK.noElement("removeStar(-1)", () -> x.removeStar(-1));
        CHECK.noElement("removeStar(5)", () -> x.removeStar(5));
        CHECK.same("starCount()", x.starCount(), 3);
        CHECK.same("star(0)", x.star(0), 0);
        CHECK.same("star(1)", x.star(1), 2);
        CHECK.same("star(2)", x.star(2), 3);
        CHECK.noIndex("star(3)", () -> x.star(3));
        CHECK.noIndex("star(-1)", () -> x.star(-1));
        CHECK.same("direction(2)", x.direction(2), 200);
        CHECK.same("direction(3)", x.direction(3), 300);
        CHECK.noElement("direction(1)", () -> x.direction(1));
        CHECK.noElement("direction(4)", () -> x.direction(4));
        CHECK.noElement("direction(-1)", () -> x.direction(-1));
        x.addStar(700, 3);
        CHECK.same("star(3) is the newest", x.star(3), 5);
        CHECK.same("direction(5)", x.direction(5), 700);
    }

    private static void promise36PassHours() {
        GearObservatory x = new GearObservatory();
        x.addStar(3599, 1);
        x.addStar(0, -50);
        x.addStar(100, 50);
        x.addStar(7, 0);
        CHECK.badArgument("passHours(0)", () -> x.passHours(0));
        CHECK.badArgument("passHours(100)", () -> x.passHours(100));
        CHECK.badArgument("passHours(-1)", () -> x.passHours(-1));
        CHECK.same("passHours(1)", x.passHours(1), 1);
        CHECK.same("direction(0)", x.direction(0), 0);
        CHECK.same("direction(1)", x.direction(1), 3550);
        CHECK.same("direction(2)", x.direction(2), 150);
        CHECK.same("passHours(99)", x.passHours(99), 100);
        CHECK.same("direction(0) after 100 hours", x.direction(0), 99);
        CHECK.same("direction(1) after 100 hours", x.direction(1), 2200);
        CHECK.same("direction(2) after 100 hours", x.direction(2), 1500);
        CHECK.same("direction(3) after 100 hours", x.direction(3), 7);
        x.undo();
        CHECK.same("passHours(2) after undo", x.passHours(2), 3);
        CHECK.same("undoCount()", x.undoCount(), 6);
    }

    private static void promises37And38Directions() {
        GearObservatory x = new GearObservatory();
        x.addStar(3550, 50);
        x.addStar(20, -49);
        x.removeStar(0);
        x.addStar(3599, 50);
        for (int hours = 0; hours <= 99; hours++) {
            int falling = (20 - 49 * hours + 7200) % 3600;
            int rising = (3599 + 50 * hours) % 3600;
            CHECK.same("directionAfter(1, " + hours + ")", x.directionAfter(1, hours), falling);
            CHECK.same("directionAfterAtOnce(1, " + hours + ")", x.directionAfterAtOnce(1, hours), falling);
            CHECK.same("directionAfter(2, " + hours + ")", x.directionAfter(2, hours), rising);
            CHECK.same("directionAfterAtOnce(2, " + hours + ")", x.directionAfterAtOnce(2, hours), rising);
        }
        CHECK.same("direction(1) is not moved by asking", x.direction(1), 20);
    }

    private static void promises37And38Exceptions() {
        GearObservatory x = new GearObservatory();
        x.addStar(0, 1);
        CHECK.badArgument("directionAfter(0, -1)", () -> x.directionAfter(0, -1));
        CHECK.badArgument("directionAfter(0, 100)", () -> x.directionAfter(0, 100));
        CHECK.noElement("directionAfter(1, 100): the star decides", () -> x.directionAfter(1, 100));
        CHECK.noElement("directionAfter(-1, 0)", () -> x.directionAfter(-1, 0));
        CHECK.badArgument("directionAfterAtOnce(0, -1)", () -> x.directionAfterAtOnce(0, -1));
        CHECK.badArgument("directionAfterAtOnce(0, 100)", () -> x.directionAfterAtOnce(0, 100));
        CHECK.noElement("directionAfterAtOnce(1, -1): the star decides", () -> x.directionAfterAtOnce(1, -1));
        CHECK.noElement("directionAfterAtOnce(1, 0)", () -> x.directionAfterAtOnce(1, 0));
    }

    private static void promise39NearestStar() {
        GearObservatory x = new GearObservatory();
        CHECK.badArgument("nearestStar(3600) of none: the argument decides", () -> x.nearestStar(3600));
        CHECK.noElement("nearestStar(0) of none", () -> x.nearestStar(0));
        x.addStar(500, 0);
        x.addStar(100, 0);
        x.addStar(3500, 0);
        x.addStar(100, 0);
        CHECK.same("nearestStar(0): of 100 and 3500 the smaller id", x.nearestStar(0), 1);
        CHECK.same("nearestStar(3599)", x.nearestStar(3599), 2);
        CHECK.same("nearestStar(1)", x.nearestStar(1), 1);
        CHECK.same("nearestStar(300): of 500 and 100 the smaller id", x.nearestStar(300), 0);
        CHECK.same("nearestStar(2000)", x.nearestStar(2000), 0);
        CHECK.same("nearestStar(2001)", x.nearestStar(2001), 2);
        CHECK.badArgument("nearestStar(-1)", () -> x.nearestStar(-1));
        CHECK.badArgument("nearestStar(3600)", () -> x.nearestStar(3600));
        x.removeStar(1);
        CHECK.same("nearestStar(0) after removal", x.nearestStar(0), 2);
        CHECK.same("nearestStar(100) after removal", x.nearestStar(100), 3);
        GearObservatory far = new GearObservatory();
        far.addStar(1800, 0);
        CHECK.same("nearestStar(0) at the farthest", far.nearestStar(0), 0);
    }
}
