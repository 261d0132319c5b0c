/** The boundary cases of promises 1 to 17: one test for each sentence that names one. */
public final class GearBoundariesTest {
    private static final Checks CHECK = new Checks("GearBoundariesTest");
    private static final int LEAST = Integer.MIN_VALUE;
    private static final int MOST = Integer.MAX_VALUE;

    public static void main(String[] args) {
        promise1NothingIsThere();
        promise1ObjectsShareNothing();
        promise2TeethFrom8To60();
        promise2TenGears();
        promise2TheListedFirstDecides();
        promise2AGearStartsAnewAfterUndo();
        promise3NoSuchGearForEither();
        promise3SlackFrom0To5();
        promise3ConnectedGears();
        promise3NeverRings();
        promise3TheListedFirstDecides();
        promise3TheGapIsAtFirst0();
        promise4NoSuchGearForEither();
        promise4TheyDoNotMesh();
        promise4GapFrom0ToSlack();
        promise4FirstAndLastOfNineMeshes();
        promise4PartTurnsNothing();
        promise5NoSuchGear();
        promise5TeethFromMinus99To99ButNot0();
        promise5TheListedFirstDecides();
        promise5PositiveTurnAgainstGap();
        promise5NegativeTurnAgainstGap();
        promise5NoSlackAtAll();
        promise5AllNumbersOfTeethAlike();
        promise5NotTheGearThatTurnedIt();
        promise5LongestChain();
        promise5OneGearTurnsNine();
        promise5OtherTrainsStand();
        promise6NoneAndTen();
        promises7And8NoSuchGear();
        promise8NotModulo();
        promise9NoneAndNine();
        promise10SameGearAndNoSuchGear();
        promises11And12TheyDoNotMesh();
        promises11And12NoSuchGearForEither();
        promises11And12LeastAndMost();
        promise13NoSuchGearForEither();
        promise13TheSameAndTheFarthest();
        promise14OneAndTen();
        promise14NoSuchGear();
        promises15And16NoneOneAndTen();
        promises15And16UnionsInAnyOrder();
        promise17NoneAndEitherDirection();
        CHECK.end();
    }

    // ---- states ----

    static void tenGears(GearObservatory x) {
        for (int gear = 0; gear < 10; gear++) {
            x.addGear(8 + gear);
        }
    }

    /** Ten gears, each in mesh with the next. */
    static void chainOfTen(GearObservatory x, int slack) {
        tenGears(x);
        for (int gear = 0; gear < 9; gear++) {
            x.mesh(gear, gear + 1, slack);
        }
    }

    private static GearObservatory chain(int slack) {
        return Looks.made(x -> chainOfTen(x, slack));
    }

    private static Trials withNothing() {
        return new Trials(CHECK, "nothing", x -> { });
    }

    /** Gears 0 and 1 in mesh with a gap of 1, gear 2 in mesh with 1, gear 3 alone. */
    private static Trials withFour() {
        return new Trials(CHECK, "four gears", x -> {
            x.addGear(20);
            x.addGear(30);
            x.addGear(12);
            x.addGear(40);
            x.mesh(0, 1, 3);
            x.mesh(1, 2, 0);
            x.turn(0, -1);
            x.catalogue('a', 0);
        });
    }

    private static Trials withTen() {
        return new Trials(CHECK, "a chain of ten", x -> chainOfTen(x, 2));
    }

    /** Two gears in mesh with slack 5 and this gap. */
    private static GearObservatory pair(int gap) {
        GearObservatory x = GearsTest.withGears(20, 30);
        x.mesh(0, 1, 5);
        if (gap > 0) {
            x.turn(0, -gap);
        }
        return x;
    }

    // ---- promises 1 and 2 ----

    private static void promise1NothingIsThere() {
        Trials on = withNothing();
        on.asks("gearCount()", 0, x -> x.gearCount());
        on.asks("meshCount()", 0, x -> x.meshCount());
        on.asks("wheelCount()", 0, x -> x.wheelCount());
        on.asks("starCount()", 0, x -> x.starCount());
        on.asks("turnedTeeth()", 0, x -> x.turnedTeeth());
        on.asks("undoCount()", 0, x -> x.undoCount());
        on.gives("passHours(1)", 1, x -> x.passHours(1));
        on.gives("addGear(8)", 0, x -> x.addGear(8));
        on.gives("addStar(0, 0)", 0, x -> x.addStar(0, 0));
        on.gives("feed('a')", 1, x -> x.feed('a'));
        on.noIndex("teeth(0)", x -> x.teeth(0));
        on.noIndex("gearOf(0)", x -> x.gearOf(0));
        on.noIndex("star(0)", x -> x.star(0));
        on.noIndex("outputCharacter(0)", x -> x.outputCharacter(0));
        on.noElement("errorPosition()", x -> x.errorPosition());
        on.noElement("failedCommand()", x -> x.failedCommand());
        on.badState("undo()", x -> x.undo());
        on.badState("restore()", x -> x.restore());
    }

    private static void promise1ObjectsShareNothing() {
        GearObservatory other = GearsTest.withGears(20);
        other.turn(0, 5);
        other.addStar(1, 1);
        other.passHours(9);
        other.catalogue('a', 0);
        other.writeGear(0);
        other.feed('x');
        other.save();
        Trials on = withNothing();
        on.asks("gearCount() beside another object", 0, x -> x.gearCount());
        on.gives("feed('a') beside another object", 1, x -> x.feed('a'));
        on.gives("passHours(1) beside another object", 1, x -> x.passHours(1));
        on.badState("restore() beside another object", x -> x.restore());
        CHECK.same("position(0) of the other object", other.position(0), 5);
    }

    private static void promise2TeethFrom8To60() {
        Trials on = withNothing();
        on.badArgument("addGear(7)", x -> x.addGear(7));
        on.badArgument("addGear(61)", x -> x.addGear(61));
        on.badArgument("addGear(0)", x -> x.addGear(0));
        on.badArgument("addGear(-1)", x -> x.addGear(-1));
        on.badArgument("addGear(-8)", x -> x.addGear(-8));
        on.badArgument("addGear(8 + 256)", x -> x.addGear(8 + 256));
        on.badArgument("addGear(least)", x -> x.addGear(LEAST));
        on.badArgument("addGear(most)", x -> x.addGear(MOST));
        for (int teeth = 8; teeth <= 60; teeth++) {
            GearObservatory x = new GearObservatory();
            CHECK.same("addGear(" + teeth + ")", x.addGear(teeth), 0);
            CHECK.same("teeth(0) of " + teeth, x.teeth(0), teeth);
        }
    }

    private static void promise2TenGears() {
        GearObservatory x = new GearObservatory();
        for (int gear = 0; gear < 10; gear++) {
            CHECK.same("addGear: index " + gear, x.addGear(60 - gear), gear);
            CHECK.same("gearCount() after it", x.gearCount(), gear + 1);
        }
        for (int gear = 0; gear < 10; gear++) {
            CHECK.same("teeth(" + gear + ") of ten", x.teeth(gear), 60 - gear);
            CHECK.same("position(" + gear + ") of ten", x.position(gear), 0);
        }
        Trials on = new Trials(CHECK, "ten gears", GearBoundariesTest::tenGears);
        on.badState("addGear(8)", y -> y.addGear(8));
        on.badState("addGear(60)", y -> y.addGear(60));
        on.gives("addGear(9) after undo", 9, y -> {
            y.undo();
            return y.addGear(9);
        });
    }

    private static void promise2TheListedFirstDecides() {
        Trials on = new Trials(CHECK, "ten gears", GearBoundariesTest::tenGears);
        on.badArgument("addGear(7)", x -> x.addGear(7));
        on.badArgument("addGear(61)", x -> x.addGear(61));
    }

    private static void promise2AGearStartsAnewAfterUndo() {
        GearObservatory x = GearsTest.withGears(20, 30);
        x.turn(1, 7);
        x.undo();
        x.undo();
        CHECK.same("addGear(40) after undo", x.addGear(40), 1);
        CHECK.same("position(1) of a gear added after undo", x.position(1), 0);
        CHECK.same("teeth(1) of a gear added after undo", x.teeth(1), 40);
    }

    // ---- promise 3 ----

    private static void promise3NoSuchGearForEither() {
        Trials on = withFour();
        for (int gear : new int[] {-1, 4, 5, 10, LEAST, MOST}) {
            on.noIndex("mesh(" + gear + ", 3, 1)", x -> x.mesh(gear, 3, 1));
            on.noIndex("mesh(3, " + gear + ", 1)", x -> x.mesh(3, gear, 1));
            on.noIndex("mesh(" + gear + ", " + gear + ", 1)", x -> x.mesh(gear, gear, 1));
        }
        on.gives("mesh(3, 0, 1) of the last and the first gear", 3, x -> x.mesh(3, 0, 1));
        on.gives("mesh(0, 3, 1) of the first and the last gear", 3, x -> x.mesh(0, 3, 1));
        withNothing().noIndex("mesh(0, 0, 0)", x -> x.mesh(0, 0, 0));
        withNothing().noIndex("mesh(0, 1, 0)", x -> x.mesh(0, 1, 0));
    }

    private static void promise3SlackFrom0To5() {
        Trials on = withFour();
        for (int slack : new int[] {-1, 6, 256, LEAST, MOST}) {
            on.badArgument("mesh(0, 3, " + slack + ")", x -> x.mesh(0, 3, slack));
        }
        for (int slack = 0; slack <= 5; slack++) {
            int due = slack;
            on.gives("slack(3, 0) after mesh(0, 3, " + slack + ")", slack, x -> {
                x.mesh(0, 3, due);
                return x.slack(3, 0);
            });
        }
    }

    private static void promise3ConnectedGears() {
        Trials on = withFour();
        on.badState("mesh(0, 0, 1) of a gear with itself", x -> x.mesh(0, 0, 1));
        on.badState("mesh(3, 3, 1) of a single gear with itself", x -> x.mesh(3, 3, 1));
        on.badState("mesh(0, 1, 3) again", x -> x.mesh(0, 1, 3));
        on.badState("mesh(1, 0, 3) the other way round", x -> x.mesh(1, 0, 3));
        on.badState("mesh(0, 2, 0) by a chain of two meshes", x -> x.mesh(0, 2, 0));
        on.badState("mesh(2, 0, 0) by a chain of two meshes", x -> x.mesh(2, 0, 0));
        on.gives("mesh(0, 2, 1) after part(1, 2)", 2, x -> {
            x.part(1, 2);
            return x.mesh(0, 2, 1);
        });
    }

    private static void promise3NeverRings() {
        Trials on = withTen();
        on.badState("mesh(0, 9, 1) of both ends", x -> x.mesh(0, 9, 1));
        on.badState("mesh(9, 0, 1) of both ends", x -> x.mesh(9, 0, 1));
        on.gives("mesh(0, 9, 1) with a gap in the chain", 9, x -> {
            x.part(8, 9);
            return x.mesh(0, 9, 1);
        });
        on.gives("trainCount() after it", 1, x -> {
            x.part(0, 1);
            x.mesh(9, 0, 1);
            return x.trainCount();
        });
    }

    private static void promise3TheListedFirstDecides() {
        Trials on = withFour();
        on.noIndex("mesh(0, 4, 6)", x -> x.mesh(0, 4, 6));
        on.noIndex("mesh(-1, 0, -1)", x -> x.mesh(-1, 0, -1));
        on.noIndex("mesh(4, 4, 1)", x -> x.mesh(4, 4, 1));
        on.badArgument("mesh(0, 1, 6) of connected gears", x -> x.mesh(0, 1, 6));
        on.badArgument("mesh(0, 0, -1) of one gear", x -> x.mesh(0, 0, -1));
    }

    private static void promise3TheGapIsAtFirst0() {
        for (int slack = 0; slack <= 5; slack++) {
            GearObservatory x = GearsTest.withGears(20, 30);
            x.turn(0, -50);
            x.mesh(0, 1, slack);
            CHECK.same("gap of a new mesh with slack " + slack, x.gap(0, 1), 0);
        }
        GearObservatory again = pair(5);
        again.part(0, 1);
        again.mesh(1, 0, 5);
        CHECK.same("gap of a mesh made again", again.gap(0, 1), 0);
        GearObservatory undone = pair(4);
        undone.undo();
        undone.undo();
        undone.mesh(0, 1, 5);
        CHECK.same("gap of a mesh made again after undo", undone.gap(0, 1), 0);
    }

    // ---- promise 4 ----

    private static void promise4NoSuchGearForEither() {
        Trials on = withFour();
        for (int gear : new int[] {-1, 4, 10, LEAST, MOST}) {
            on.noIndex("part(" + gear + ", 1)", x -> x.part(gear, 1));
            on.noIndex("part(1, " + gear + ")", x -> x.part(1, gear));
            on.noIndex("part(" + gear + ", " + gear + ")", x -> x.part(gear, gear));
        }
        withNothing().noIndex("part(0, 0)", x -> x.part(0, 0));
        withNothing().noIndex("part(-1, -1)", x -> x.part(-1, -1));
    }

    private static void promise4TheyDoNotMesh() {
        Trials on = withFour();
        on.noElement("part(1, 1) of the same gear", x -> x.part(1, 1));
        on.noElement("part(3, 3) of a single gear", x -> x.part(3, 3));
        on.noElement("part(0, 2) of connected gears", x -> x.part(0, 2));
        on.noElement("part(0, 3) of unconnected gears", x -> x.part(0, 3));
        Trials parted = new Trials(CHECK, "two gears parted", x -> {
            x.addGear(8);
            x.addGear(9);
            x.mesh(0, 1, 5);
            x.part(1, 0);
        });
        parted.noElement("part(0, 1)", x -> x.part(0, 1));
        parted.noElement("part(1, 0)", x -> x.part(1, 0));
        parted.asks("meshCount()", 0, x -> x.meshCount());
    }

    private static void promise4GapFrom0ToSlack() {
        for (int gap = 0; gap <= 5; gap++) {
            CHECK.same("part(0, 1) with gap " + gap, pair(gap).part(0, 1), gap);
            CHECK.same("part(1, 0) with gap " + gap, pair(gap).part(1, 0), gap);
        }
        CHECK.same("part(0, 1) after turning beyond the slack", pair(99).part(0, 1), 5);
    }

    private static void promise4FirstAndLastOfNineMeshes() {
        for (int parted = 0; parted < 9; parted++) {
            GearObservatory x = new GearObservatory();
            tenGears(x);
            for (int gear = 0; gear < 9; gear++) {
                x.mesh(gear, gear + 1, gear % 6);
            }
            // Every second gear turns in the negative direction and opens its mesh as far as the slack goes.
            x.turn(0, 99);
            int due = parted % 2 == 0 ? 0 : parted % 6;
            CHECK.same("part of mesh " + parted, x.part(parted + 1, parted), due);
            CHECK.same("meshCount() after part of mesh " + parted, x.meshCount(), 8);
            CHECK.same("trainSize(0) after part of mesh " + parted, x.trainSize(0), parted + 1);
            for (int gear = 0; gear < 9; gear++) {
                boolean meshes = x.doMesh(gear, gear + 1);
                CHECK.same("doMesh after part of mesh " + parted, meshes ? 1 : 0, gear == parted ? 0 : 1);
                if (gear != parted) {
                    int gap = gear % 2 == 0 ? 0 : gear % 6;
                    CHECK.same("gap after part of mesh " + parted, x.gap(gear, gear + 1), gap);
                    CHECK.same("slack after part of mesh " + parted, x.slack(gear, gear + 1), gear % 6);
                }
            }
            CHECK.same("mesh after part of mesh " + parted, x.mesh(parted, parted + 1, 5), 9);
            CHECK.same("slack of the mesh made again", x.slack(parted, parted + 1), 5);
        }
    }

    private static void promise4PartTurnsNothing() {
        GearObservatory x = pair(3);
        x.turn(1, -4);
        int turned = x.turnedTeeth();
        int first = x.position(0);
        int second = x.position(1);
        x.part(0, 1);
        CHECK.same("turnedTeeth() after part", x.turnedTeeth(), turned);
        CHECK.same("position(0) after part", x.position(0), first);
        CHECK.same("position(1) after part", x.position(1), second);
        CHECK.same("turn(0, 9) after part", x.turn(0, 9), 1);
        CHECK.same("position(1) after it", x.position(1), second);
    }

    // ---- promise 5 ----

    private static void promise5NoSuchGear() {
        Trials on = withFour();
        for (int gear : new int[] {-1, 4, 10, LEAST, MOST}) {
            on.noIndex("turn(" + gear + ", 1)", x -> x.turn(gear, 1));
        }
        on.gives("turn(3, 1) of the last gear", 1, x -> x.turn(3, 1));
        withNothing().noIndex("turn(0, 1)", x -> x.turn(0, 1));
        new Trials(CHECK, "ten gears", GearBoundariesTest::tenGears).noIndex("turn(10, 1)", x -> x.turn(10, 1));
    }

    private static void promise5TeethFromMinus99To99ButNot0() {
        Trials on = withFour();
        for (int teeth : new int[] {0, 100, -100, 1000, LEAST, LEAST + 1, MOST}) {
            on.badArgument("turn(3, " + teeth + ")", x -> x.turn(3, teeth));
        }
        for (int teeth : new int[] {1, -1, 99, -99}) {
            on.gives("turn(3, " + teeth + ")", 1, x -> x.turn(3, teeth));
            on.gives("position(3) after turn(3, " + teeth + ")", teeth, x -> {
                x.turn(3, teeth);
                return x.position(3);
            });
        }
    }

    private static void promise5TheListedFirstDecides() {
        Trials on = withFour();
        on.noIndex("turn(4, 0)", x -> x.turn(4, 0));
        on.noIndex("turn(-1, 100)", x -> x.turn(-1, 100));
        on.noIndex("turn(-1, -100)", x -> x.turn(-1, -100));
    }

    /** The gap decreases by the smaller one of the number and the gap. */
    private static void promise5PositiveTurnAgainstGap() {
        for (int gap = 0; gap <= 5; gap++) {
            for (int teeth = 1; teeth <= 7; teeth++) {
                turnBoth(gap, teeth, Math.max(gap - teeth, 0), Math.min(gap - teeth, 0));
            }
            turnBoth(gap, 99, 0, gap - 99);
        }
    }

    /** The gap increases by the smaller one of the number and of the slack less the gap. */
    private static void promise5NegativeTurnAgainstGap() {
        for (int gap = 0; gap <= 5; gap++) {
            for (int teeth = 1; teeth <= 7; teeth++) {
                turnBoth(gap, -teeth, Math.min(gap + teeth, 5), Math.max(gap + teeth - 5, 0));
            }
            turnBoth(gap, -99, 5, gap + 94);
        }
    }

    /** Either gear of the mesh may be the one that turns: the gap does the same. */
    private static void turnBoth(int gap, int teeth, int dueGap, int dueTurn) {
        for (int gear = 0; gear < 2; gear++) {
            GearObservatory x = pair(gap);
            int before = x.position(gear);
            int otherBefore = x.position(1 - gear);
            int turnedBefore = x.turnedTeeth();
            String what = " after turn(" + gear + ", " + teeth + ") with gap " + gap;
            CHECK.same("gears that turn" + what, x.turn(gear, teeth), dueTurn == 0 ? 1 : 2);
            CHECK.same("gap" + what, x.gap(0, 1), dueGap);
            CHECK.same("position" + what, x.position(gear), before + teeth);
            CHECK.same("position of the other" + what, x.position(1 - gear), otherBefore + dueTurn);
            CHECK.same("turnedTeeth()" + what, x.turnedTeeth(),
                    turnedBefore + Math.abs(teeth) + Math.abs(dueTurn));
        }
    }

    private static void promise5NoSlackAtAll() {
        GearObservatory x = GearsTest.withGears(20, 30);
        x.mesh(0, 1, 0);
        CHECK.same("turn(0, -1) without slack", x.turn(0, -1), 2);
        CHECK.same("position(1)", x.position(1), 1);
        CHECK.same("turn(1, 1) without slack", x.turn(1, 1), 2);
        CHECK.same("position(0)", x.position(0), -2);
        CHECK.same("gap stays 0", x.gap(0, 1), 0);
    }

    private static void promise5AllNumbersOfTeethAlike() {
        GearObservatory x = GearsTest.withGears(8, 60);
        x.mesh(0, 1, 0);
        x.turn(0, 60);
        CHECK.same("position(1) of 60 teeth by 8", x.position(1), -60);
        x.turn(1, 1);
        CHECK.same("position(0) of 8 teeth by 60", x.position(0), 59);
    }

    private static void promise5NotTheGearThatTurnedIt() {
        GearObservatory x = GearsTest.withGears(20, 30, 40);
        x.mesh(0, 1, 2);
        x.mesh(1, 2, 2);
        x.turn(0, -2);
        CHECK.same("gap(0, 1)", x.gap(0, 1), 2);
        CHECK.same("turn(0, -1): the second gear turns by 1", x.turn(0, -1), 3);
        CHECK.same("gap(0, 1) is not turned back by the second gear", x.gap(0, 1), 2);
        CHECK.same("position(0) is not turned by the second gear", x.position(0), -3);
        CHECK.same("position(1)", x.position(1), 1);
        CHECK.same("gap(1, 2) was 0", x.gap(1, 2), 0);
        CHECK.same("position(2)", x.position(2), -1);
    }

    private static void promise5LongestChain() {
        GearObservatory x = chain(5);
        // From the first gear on, every second mesh is turned in the negative direction and takes its slack.
        CHECK.same("turn(0, 20): the last two gears stand", x.turn(0, 20), 8);
        CHECK.same("position(8)", x.position(8), 0);
        CHECK.same("position(9)", x.position(9), 0);
        CHECK.same("turn(0, 1): all turn", x.turn(0, 1), 10);
        CHECK.same("position(9) turns by one", x.position(9), -1);
        CHECK.same("turn(0, -45): the last gear stands", x.turn(0, -45), 9);
        CHECK.same("position(9) stands", x.position(9), -1);
        CHECK.same("turn(0, -1): all turn back", x.turn(0, -1), 10);
        CHECK.same("position(9) turns back", x.position(9), 0);
        CHECK.same("turn(9, 99) from the other end", x.turn(9, 99), 10);
        GearObservatory stiff = chain(0);
        CHECK.same("turn(5, -7) without slack", stiff.turn(5, -7), 10);
        for (int gear = 0; gear < 10; gear++) {
            CHECK.same("position(" + gear + ") of every second gear", stiff.position(gear), gear % 2 == 1 ? -7 : 7);
        }
    }

    private static void promise5OneGearTurnsNine() {
        GearObservatory x = new GearObservatory();
        tenGears(x);
        for (int gear = 0; gear < 9; gear++) {
            x.mesh(gear, 9, gear % 6);
        }
        CHECK.same("turn(9, -3): meshes with less slack turn", x.turn(9, -3), 1 + 3 + 3);
        for (int gear = 0; gear < 9; gear++) {
            CHECK.same("gap of mesh " + gear, x.gap(9, gear), Math.min(gear % 6, 3));
            CHECK.same("position of gear " + gear, x.position(gear), Math.max(3 - gear % 6, 0));
        }
        CHECK.same("turn(9, 99) turns all", x.turn(9, 99), 10);
    }

    private static void promise5OtherTrainsStand() {
        GearObservatory x = GearsTest.withGears(20, 30, 40, 50);
        x.mesh(0, 1, 0);
        x.mesh(2, 3, 5);
        x.turn(2, -4);
        CHECK.same("turn(0, 50)", x.turn(0, 50), 2);
        CHECK.same("position(2) in another train", x.position(2), -4);
        CHECK.same("position(3) in another train", x.position(3), 0);
        CHECK.same("gap(2, 3) in another train", x.gap(2, 3), 4);
    }

    // ---- promises 6 to 17 ----

    private static void promise6NoneAndTen() {
        withNothing().asks("gearCount()", 0, x -> x.gearCount());
        withTen().asks("gearCount()", 10, x -> x.gearCount());
        withTen().asks("gearCount() after a refused gear", 10, x -> {
            Trials.quietly(x, y -> y.addGear(8));
            return x.gearCount();
        });
    }

    private static void promises7And8NoSuchGear() {
        Trials on = withFour();
        for (int gear : new int[] {-1, 4, 10, LEAST, MOST}) {
            on.noIndex("teeth(" + gear + ")", x -> x.teeth(gear));
            on.noIndex("position(" + gear + ")", x -> x.position(gear));
        }
        on.asks("teeth(0) of the first", 20, x -> x.teeth(0));
        on.asks("teeth(3) of the last", 40, x -> x.teeth(3));
        on.asks("position(0) of the first", -1, x -> x.position(0));
        on.asks("position(3) of the last", 0, x -> x.position(3));
        withNothing().noIndex("teeth(0)", x -> x.teeth(0));
        withNothing().noIndex("position(0)", x -> x.position(0));
        withTen().asks("teeth(9)", 17, x -> x.teeth(9));
        withTen().noIndex("teeth(10)", x -> x.teeth(10));
        withTen().asks("position(9)", 0, x -> x.position(9));
        withTen().noIndex("position(10)", x -> x.position(10));
    }

    private static void promise8NotModulo() {
        GearObservatory x = GearsTest.withGears(8);
        for (int i = 1; i <= 400; i++) {
            x.turn(0, 99);
        }
        CHECK.same("position(0) after 400 turns by 99", x.position(0), 39600);
        CHECK.same("turnedTeeth() after them", x.turnedTeeth(), 39600);
        GearObservatory back = GearsTest.withGears(8);
        back.turn(0, -8);
        CHECK.same("position(0) after a whole revolution back", back.position(0), -8);
        back.turn(0, 8);
        CHECK.same("position(0) after a whole revolution ahead", back.position(0), 0);
    }

    private static void promise9NoneAndNine() {
        withNothing().asks("meshCount()", 0, x -> x.meshCount());
        withTen().asks("meshCount()", 9, x -> x.meshCount());
        withTen().asks("meshCount() after a refused mesh", 9, x -> {
            Trials.quietly(x, y -> y.mesh(0, 9, 0));
            return x.meshCount();
        });
        GearObservatory x = chain(1);
        for (int gear = 0; gear < 9; gear++) {
            x.part(gear, gear + 1);
            CHECK.same("meshCount() after part", x.meshCount(), 8 - gear);
        }
    }

    private static void promise10SameGearAndNoSuchGear() {
        Trials on = withFour();
        on.asks("doMesh(0, 0) of the same gear", 0, x -> x.doMesh(0, 0) ? 1 : 0);
        on.asks("doMesh(3, 3) of the same gear", 0, x -> x.doMesh(3, 3) ? 1 : 0);
        on.asks("doMesh(0, 1)", 1, x -> x.doMesh(0, 1) ? 1 : 0);
        on.asks("doMesh(1, 0)", 1, x -> x.doMesh(1, 0) ? 1 : 0);
        on.asks("doMesh(0, 2) of a chain", 0, x -> x.doMesh(0, 2) ? 1 : 0);
        on.asks("doMesh(0, 3) of two trains", 0, x -> x.doMesh(0, 3) ? 1 : 0);
        for (int gear : new int[] {-1, 4, 10, LEAST, MOST}) {
            on.noIndex("doMesh(" + gear + ", 0)", x -> x.doMesh(gear, 0) ? 1 : 0);
            on.noIndex("doMesh(0, " + gear + ")", x -> x.doMesh(0, gear) ? 1 : 0);
            on.noIndex("doMesh(" + gear + ", " + gear + ")", x -> x.doMesh(gear, gear) ? 1 : 0);
        }
        withNothing().noIndex("doMesh(0, 0)", x -> x.doMesh(0, 0) ? 1 : 0);
        // An index that stands for no gear inside must not count as a gear that meshes.
        withTen().noIndex("doMesh(9, -1)", x -> x.doMesh(9, -1) ? 1 : 0);
    }

    private static void promises11And12TheyDoNotMesh() {
        Trials on = withFour();
        int[][] pairs = {{0, 0}, {3, 3}, {0, 2}, {2, 0}, {0, 3}, {3, 1}};
        for (int[] pair : pairs) {
            String both = "(" + pair[0] + ", " + pair[1] + ")";
            on.noElement("slack" + both, x -> x.slack(pair[0], pair[1]));
            on.noElement("gap" + both, x -> x.gap(pair[0], pair[1]));
        }
    }

    private static void promises11And12NoSuchGearForEither() {
        Trials on = withFour();
        for (int gear : new int[] {-1, 4, 10, LEAST, MOST}) {
            on.noIndex("slack(" + gear + ", 0)", x -> x.slack(gear, 0));
            on.noIndex("slack(0, " + gear + ")", x -> x.slack(0, gear));
            on.noIndex("slack(" + gear + ", " + gear + ")", x -> x.slack(gear, gear));
            on.noIndex("gap(" + gear + ", 0)", x -> x.gap(gear, 0));
            on.noIndex("gap(0, " + gear + ")", x -> x.gap(0, gear));
            on.noIndex("gap(" + gear + ", " + gear + ")", x -> x.gap(gear, gear));
        }
        withNothing().noIndex("slack(0, 0)", x -> x.slack(0, 0));
        withNothing().noIndex("gap(0, 0)", x -> x.gap(0, 0));
    }

    private static void promises11And12LeastAndMost() {
        Trials on = withFour();
        on.asks("slack(0, 1)", 3, x -> x.slack(0, 1));
        on.asks("slack(1, 0)", 3, x -> x.slack(1, 0));
        on.asks("slack(2, 1) of none", 0, x -> x.slack(2, 1));
        on.asks("gap(0, 1)", 1, x -> x.gap(0, 1));
        on.asks("gap(1, 0)", 1, x -> x.gap(1, 0));
        for (int gap = 0; gap <= 5; gap++) {
            CHECK.same("slack(0, 1) with gap " + gap, pair(gap).slack(0, 1), 5);
            CHECK.same("gap(1, 0) with gap " + gap, pair(gap).gap(1, 0), gap);
        }
    }

    private static void promise13NoSuchGearForEither() {
        Trials on = withFour();
        for (int gear : new int[] {-1, 4, 10, LEAST, MOST}) {
            on.noIndex("areConnected(" + gear + ", 0)", x -> x.areConnected(gear, 0) ? 1 : 0);
            on.noIndex("areConnected(0, " + gear + ")", x -> x.areConnected(0, gear) ? 1 : 0);
            on.noIndex("areConnected(" + gear + ", " + gear + ")", x -> x.areConnected(gear, gear) ? 1 : 0);
        }
        withNothing().noIndex("areConnected(0, 0)", x -> x.areConnected(0, 0) ? 1 : 0);
    }

    private static void promise13TheSameAndTheFarthest() {
        Trials on = withFour();
        on.asks("areConnected(3, 3) of a single gear", 1, x -> x.areConnected(3, 3) ? 1 : 0);
        on.asks("areConnected(0, 2)", 1, x -> x.areConnected(0, 2) ? 1 : 0);
        on.asks("areConnected(2, 3)", 0, x -> x.areConnected(2, 3) ? 1 : 0);
        Trials ten = withTen();
        ten.asks("areConnected(0, 9)", 1, x -> x.areConnected(0, 9) ? 1 : 0);
        ten.asks("areConnected(9, 0)", 1, x -> x.areConnected(9, 0) ? 1 : 0);
        ten.gives("areConnected(0, 9) after part(4, 5)", 0, x -> {
            x.part(4, 5);
            return x.areConnected(0, 9) ? 1 : 0;
        });
    }

    private static void promise14OneAndTen() {
        withFour().asks("trainSize(3) of a single gear", 1, x -> x.trainSize(3));
        withFour().asks("trainSize(2)", 3, x -> x.trainSize(2));
        for (int gear = 0; gear < 10; gear++) {
            int one = gear;
            withTen().asks("trainSize(" + gear + ")", 10, x -> x.trainSize(one));
        }
    }

    private static void promise14NoSuchGear() {
        Trials on = withFour();
        for (int gear : new int[] {-1, 4, 10, LEAST, MOST}) {
            on.noIndex("trainSize(" + gear + ")", x -> x.trainSize(gear));
        }
        withNothing().noIndex("trainSize(0)", x -> x.trainSize(0));
        withTen().noIndex("trainSize(10)", x -> x.trainSize(10));
    }

    private static void promises15And16NoneOneAndTen() {
        withNothing().asks("trainCount()", 0, x -> x.trainCount());
        withNothing().asks("trainCountByUnions()", 0, x -> x.trainCountByUnions());
        withTen().asks("trainCount()", 1, x -> x.trainCount());
        withTen().asks("trainCountByUnions()", 1, x -> x.trainCountByUnions());
        Trials ten = new Trials(CHECK, "ten single gears", GearBoundariesTest::tenGears);
        ten.asks("trainCount()", 10, x -> x.trainCount());
        ten.asks("trainCountByUnions()", 10, x -> x.trainCountByUnions());
        withFour().asks("trainCount()", 2, x -> x.trainCount());
        withFour().asks("trainCountByUnions()", 2, x -> x.trainCountByUnions());
        Trials one = new Trials(CHECK, "one gear", x -> x.addGear(8));
        one.asks("trainCount()", 1, x -> x.trainCount());
        one.asks("trainCountByUnions()", 1, x -> x.trainCountByUnions());
    }

    /** Sets that are united late, and by gears that are not their first ones. */
    private static void promises15And16UnionsInAnyOrder() {
        int[][] orders = {{8, 6, 4, 2, 0, 7, 5, 3, 1}, {0, 2, 4, 6, 8, 1, 3, 5, 7}, {4, 3, 5, 2, 6, 1, 7, 0, 8}};
        for (int[] order : orders) {
            GearObservatory x = GearsTest.withGears(8, 9, 10, 11, 12, 13, 14, 15, 16, 17);
            for (int i = 0; i < 9; i++) {
                x.mesh(order[i] + i % 2, order[i] + 1 - i % 2, 0);
                CHECK.same("trainCount() after mesh " + i, x.trainCount(), 9 - i);
                CHECK.same("trainCountByUnions() after mesh " + i, x.trainCountByUnions(), 9 - i);
            }
        }
    }

    private static void promise17NoneAndEitherDirection() {
        withNothing().asks("turnedTeeth()", 0, x -> x.turnedTeeth());
        withTen().asks("turnedTeeth()", 0, x -> x.turnedTeeth());
        GearObservatory x = pair(0);
        x.turn(0, -5);
        CHECK.same("turnedTeeth(): the gap takes all from the other", x.turnedTeeth(), 5);
        x.turn(0, 6);
        CHECK.same("turnedTeeth(): the other turns by the rest", x.turnedTeeth(), 5 + 6 + 1);
        Trials.quietly(x, y -> y.turn(0, 100));
        Trials.quietly(x, y -> y.turn(0, 0));
        CHECK.same("turnedTeeth() after refused turns", x.turnedTeeth(), 12);
        x.undo();
        CHECK.same("turnedTeeth() after undo", x.turnedTeeth(), 5);
        GearObservatory all = chain(0);
        all.turn(3, -99);
        CHECK.same("turnedTeeth() of ten gears", all.turnedTeeth(), 990);
        all.turn(6, 99);
        CHECK.same("turnedTeeth() of ten gears there and back", all.turnedTeeth(), 1980);
    }
}
