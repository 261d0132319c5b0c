/** Long runs of calls on the class and on PlainObservatory: every answer and exception must be the same. */
public final class SideBySideTest {
    private static final Checks CHECK = new Checks("SideBySideTest");
    private static final int RUNS = 400;
    private static final int CALLS = 512;
    private static final String[] STARTS = {"gear ", "mesh ", "turn ", "wheel ", "note ", "hour "};

    private static final int[] FAR = {Integer.MIN_VALUE, Integer.MAX_VALUE, 65536, -256};

    private static final String SIGNS = "0123456789 ;-+*/ghmntwear`{:\u0134";

    private GearObservatory x;
    private PlainObservatory y;
    private long state;
    private int run;
    private int calls;

    public static void main(String[] args) {
        SideBySideTest test = new SideBySideTest();
        for (int run = 0; run < RUNS; run++) {
            test.runOne(run);
        }
        CHECK.end();
    }

    /** A fixed row of numbers, so that each run of the test makes the same calls. */
    private int pick(int bound) {
        state = state * 6364136223846793005L + 1442695040888963407L;
        return (int) ((state >>> 33) % bound);
    }

    private int from(int least, int most) {
        return least + pick(most - least + 1);
    }

    private int gear() {
        int gears = x.gearCount();
        return pick(25) == 0 || gears == 0 ? wrong(-1, 10) : pick(gears);
    }

    /** A number around the edges, or far beyond them. */
    private int wrong(int least, int most) {
        return pick(10) == 0 ? FAR[pick(FAR.length)] : from(least, most);
    }

    private int wheel() {
        int wheels = x.wheelCount();
        return pick(20) == 0 || wheels == 0 ? wrong(-1, 4) : pick(wheels);
    }

    private int star() {
        int stars = x.starCount();
        return pick(20) == 0 || stars == 0 ? wrong(-1, 30) : x.star(pick(stars));
    }

    private char letter() {
        return pick(25) == 0 ? (char) pick(300) : (char) ('a' + pick(4));
    }

    private int digit() {
        return pick(25) == 0 ? wrong(-2, 12) : pick(3);
    }

    private static long outcome(Checks.Call call) {
        try {
            return call.answer();
        } catch (RuntimeException e) {
            if (!Checks.isOfTheClass(e)) {
                CHECK.say("the machine threw " + e);
            }
            return Long.MIN_VALUE + Math.abs((long) e.getClass().getName().hashCode());
        }
    }

    private void both(String what, Checks.Call mine, Checks.Call plain) {
        calls++;
        long got = outcome(mine);
        long due = outcome(plain);
        CHECK.same("run " + run + ", call " + calls + ", " + what, got, due);
    }

    private void runOne(int number) {
        run = number;
        state = number * 7919L + 17;
        calls = 0;
        x = new GearObservatory();
        y = new PlainObservatory();
        if (number % 3 != 0) {
            buildUp();
        }
        while (calls < CALLS) {
            callOne();
        }
    }

    private void buildUp() {
        for (int i = from(2, 10); i > 0; i--) {
            int teeth = from(8, 60);
            both("addGear", () -> x.addGear(teeth), () -> y.addGear(teeth));
        }
        for (int i = 0; i < 12; i++) {
            makeMesh();
        }
        for (int i = 0; i < 8; i++) {
            changeWheelsAndStars();
            changeCatalogue();
        }
    }

    private void makeMesh() {
        int a = gear();
        int b = gear();
        int slack = pick(20) == 0 ? wrong(-1, 6) : from(0, 5);
        both("mesh(" + a + ", " + b + ", " + slack + ")", () -> x.mesh(a, b, slack), () -> y.mesh(a, b, slack));
    }

    private void callOne() {
        switch (pick(14)) {
            case 0:
                changeGears();
                break;
            case 1:
            case 2:
                turn();
                break;
            case 3:
                askGears();
                break;
            case 4:
                askPairs();
                break;
            case 5:
                askRatios();
                break;
            case 6:
                changeWheelsAndStars();
                break;
            case 7:
                askWheels();
                break;
            case 8:
                askStars();
                break;
            case 9:
                changeCatalogue();
                break;
            case 10:
                askCatalogue();
                break;
            case 11:
                askStatistics();
                break;
            case 12:
                undoOrSave();
                break;
            default:
                if (pick(6) == 0) {
                    executeText();
                } else {
                    askKept();
                }
        }
    }

    private void changeGears() {
        int a = gear();
        int b = gear();
        switch (pick(4)) {
            case 0:
                int teeth = from(6, 62);
                both("addGear(" + teeth + ")", () -> x.addGear(teeth), () -> y.addGear(teeth));
                break;
            case 1:
                both("part(" + a + ", " + b + ")", () -> x.part(a, b), () -> y.part(a, b));
                break;
            default:
                makeMesh();
        }
    }

    private void turn() {
        int gear = gear();
        int teeth = pick(4) == 0 ? wrong(-101, 101) : from(-8, 8);
        both("turn(" + gear + ", " + teeth + ")", () -> x.turn(gear, teeth), () -> y.turn(gear, teeth));
    }

    private void askGears() {
        int gear = gear();
        both("gearCount()", () -> x.gearCount(), () -> y.gearCount());
        both("teeth(" + gear + ")", () -> x.teeth(gear), () -> y.teeth(gear));
        both("position(" + gear + ")", () -> x.position(gear), () -> y.position(gear));
        both("meshCount()", () -> x.meshCount(), () -> y.meshCount());
        both("trainSize(" + gear + ")", () -> x.trainSize(gear), () -> y.trainSize(gear));
        both("trainCount()", () -> x.trainCount(), () -> y.trainCount());
        both("trainCountByUnions()", () -> x.trainCountByUnions(), () -> y.trainCount());
        both("turnedTeeth()", () -> x.turnedTeeth(), () -> y.turnedTeeth());
        both("writeGear(" + gear + ")", () -> x.writeGear(gear), () -> y.writeGear(gear));
        int index = wrong(-1, 30);
        both("outputCharacter(" + index + ")", () -> x.outputCharacter(index), () -> y.outputCharacter(index));
    }

    private void askPairs() {
        int a = gear();
        int b = gear();
        String pair = "(" + a + ", " + b + ")";
        both("doMesh" + pair, () -> x.doMesh(a, b) ? 1 : 0, () -> y.doMesh(a, b) ? 1 : 0);
        both("slack" + pair, () -> x.slack(a, b), () -> y.slack(a, b));
        both("gap" + pair, () -> x.gap(a, b), () -> y.gap(a, b));
        both("areConnected" + pair, () -> x.areConnected(a, b) ? 1 : 0, () -> y.areConnected(a, b) ? 1 : 0);
    }

    private void askRatios() {
        int a = gear();
        int b = gear();
        String pair = "(" + a + ", " + b + ")";
        both("ratioNumerator" + pair, () -> x.ratioNumerator(a, b), () -> y.ratioNumerator(a, b));
        both("ratioDenominator" + pair, () -> x.ratioDenominator(a, b), () -> y.ratioDenominator(a, b));
        both("ratioNumeratorByChain" + pair, () -> x.ratioNumeratorByChain(a, b), () -> y.ratioNumerator(a, b));
        both("freePlay" + pair, () -> x.freePlay(a, b), () -> y.freePlay(a, b));
        both("freePlayByTurning" + pair, () -> x.freePlayByTurning(a, b), () -> y.freePlay(a, b));
    }

    private void changeWheelsAndStars() {
        int gear = gear();
        int star = star();
        int wheel = wheel();
        int direction = pick(15) == 0 ? wrong(-2, 3601) : pick(40) * 90;
        int speed = from(-51, 51);
        int spokes = from(2, 13);
        int hours = pick(5) == 0 ? wrong(-1, 101) : from(1, 9);
        switch (pick(6)) {
            case 0:
                both("addWheel", () -> x.addWheel(gear, spokes), () -> y.addWheel(gear, spokes));
                break;
            case 1:
            case 2:
                both("addStar", () -> x.addStar(direction, speed), () -> y.addStar(direction, speed));
                break;
            case 3:
                both("removeStar(" + star + ")", () -> x.removeStar(star), () -> y.removeStar(star));
                break;
            case 4:
                both("passHours(" + hours + ")", () -> x.passHours(hours), () -> y.passHours(hours));
                break;
            default:
                both("follow(" + wheel + ", " + star + ")", () -> x.follow(wheel, star), () -> y.follow(wheel, star));
        }
    }

    private void askWheels() {
        int wheel = wheel();
        int star = star();
        int spoke = wrong(-1, 12);
        String pair = "(" + wheel + ", " + star + ")";
        both("wheelCount()", () -> x.wheelCount(), () -> y.wheelCount());
        both("gearOf(" + wheel + ")", () -> x.gearOf(wheel), () -> y.gearOf(wheel));
        both("spokeDirection", () -> x.spokeDirection(wheel, spoke), () -> y.spokeDirection(wheel, spoke));
        both("nearestSpoke" + pair, () -> x.nearestSpoke(wheel, star), () -> y.nearestSpoke(wheel, star));
        both("distanceToStar" + pair, () -> x.distanceToStar(wheel, star), () -> y.distanceToStar(wheel, star));
        both("teethToFollow" + pair, () -> x.teethToFollow(wheel, star), () -> y.teethToFollow(wheel, star));
    }

    private void askStars() {
        int star = star();
        int hours = wrong(-1, 100);
        int direction = wrong(-5, 3604);
        int position = wrong(-1, 8);
        both("starCount()", () -> x.starCount(), () -> y.starCount());
        both("star(" + position + ")", () -> x.star(position), () -> y.star(position));
        both("direction(" + star + ")", () -> x.direction(star), () -> y.direction(star));
        both("directionAfter", () -> x.directionAfter(star, hours), () -> y.directionAfter(star, hours));
        both("directionAfterAtOnce", () -> x.directionAfterAtOnce(star, hours), () -> y.directionAfter(star, hours));
        both("nearestStar(" + direction + ")", () -> x.nearestStar(direction), () -> y.nearestStar(direction));
    }

    private void changeCatalogue() {
        char letter = letter();
        int digit = digit();
        if (pick(3) == 0) {
            both("forget", () -> x.forget(letter, digit), () -> y.forget(letter, digit));
        } else {
            both("catalogue", () -> x.catalogue(letter, digit), () -> y.catalogue(letter, digit));
        }
    }

    private void askCatalogue() {
        char letter = letter();
        int digit = digit();
        int gear = gear();
        both("isCatalogued", () -> x.isCatalogued(letter, digit) ? 1 : 0, () -> y.isCatalogued(letter, digit) ? 1 : 0);
        both("entryPosition", () -> x.entryPosition(letter, digit, gear), () -> y.entryPosition(letter, digit, gear));
        both("changedSince", () -> x.changedSince(letter, digit), () -> y.changedSince(letter, digit));
    }

    private void askStatistics() {
        int tolerance = pick(4) == 0 ? wrong(-2, 1802) : from(0, 200);
        both("meanTeeth()", () -> Double.doubleToLongBits(x.meanTeeth()), () -> Double.doubleToLongBits(y.meanTeeth()));
        both("alignedFraction(" + tolerance + ")", () -> Float.floatToIntBits(x.alignedFraction(tolerance)),
                () -> Float.floatToIntBits(y.alignedFraction(tolerance)));
        both("isConsistent()", () -> x.isConsistent() ? 1 : 0, () -> 1);
    }

    private void undoOrSave() {
        int kind = pick(12);
        if (kind == 0) {
            both("save()", () -> x.save(), () -> y.save());
        } else if (kind == 1) {
            both("restore()", () -> x.restore(), () -> y.restore());
        } else if (kind < 5) {
            for (int i = run % 5 == 0 ? pick(9) : pick(2); i >= 0; i--) {
                both("undo()", () -> x.undo(), () -> y.undo());
            }
        }
        both("undoCount()", () -> x.undoCount(), () -> y.undoCount());
    }

    private void askKept() {
        both("errorPosition()", () -> x.errorPosition(), () -> y.errorPosition());
        both("failedCommand()", () -> x.failedCommand(), () -> y.failedCommand());
    }

    private void executeText() {
        String text = text();
        for (int i = 0; i < text.length(); i++) {
            char sign = text.charAt(i);
            both("feed(" + sign + ")", () -> x.feed(sign), () -> y.feed(sign));
        }
        both("execute() of " + text, () -> x.execute(), () -> y.execute());
        askKept();
        both("undoCount()", () -> x.undoCount(), () -> y.undoCount());
    }

    private String text() {
        StringBuilder text = new StringBuilder();
        for (int i = from(1, pick(3) == 0 ? 9 : 3); i > 0; i--) {
            text.append(command());
            if (i > 1) {
                text.append(';');
            }
        }
        for (int i = pick(3) == 0 ? from(1, 2) : 0; i > 0 && text.length() > 0; i--) {
            spoil(text);
        }
        return text.toString();
    }

    private void spoil(StringBuilder text) {
        int at = pick(text.length());
        char sign = SIGNS.charAt(pick(SIGNS.length()));
        switch (pick(4)) {
            case 0:
                text.setCharAt(at, sign);
                break;
            case 1:
                text.insert(at, sign);
                break;
            case 2:
                text.deleteCharAt(at);
                break;
            default:
                text.setLength(at);
        }
    }

    private String command() {
        int kind = pick(6);
        String start = STARTS[kind];
        int gears = Math.max(1, Math.min(10, x.gearCount() + 1));
        switch (kind) {
            case 0:
                return start + from(7, 61);
            case 1:
                return start + pick(gears) + "-" + pick(gears) + "/" + from(0, 6);
            case 2:
                return start + pick(gears) + (pick(2) == 0 ? "+" : "-") + (pick(9) == 0 ? "0" : "") + pick(10);
            case 3:
                return start + pick(gears) + "*" + from(2, 13);
            case 4:
                return start + (char) ('a' + pick(3)) + pick(3);
            default:
                return start + pick(30);
        }
    }
}
