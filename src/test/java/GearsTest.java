/** Promises 1 to 17: gears, meshes, turning and trains. */
public final class GearsTest {
    private static final Checks CHECK = new Checks("GearsTest");

    public static void main(String[] args) {
        promise1NewObject();
        promise2AddGear();
        promise3Mesh();
        promise3RingsAreRefused();
        promise4Part();
        promise4PartKeepsOtherMeshes();
        promise5Turn();
        promise5TurnThroughGaps();
        promise5TurnSpreadsInAllDirections();
        promises6To9Getters();
        promises10To12Meshes();
        promises13And14Connections();
        promises15And16Trains();
        promise17TurnedTeeth();
        failedCallsChangeNothing();
        CHECK.end();
    }

    static GearObservatory withGears(int... teeth) {
        GearObservatory x = new GearObservatory();
        for (int number : teeth) {
            x.addGear(number);
        }
        return x;
    }

    private static void promise1NewObject() {
        GearObservatory x = new GearObservatory();
        CHECK.same("gearCount() of a new object", x.gearCount(), 0);
        CHECK.same("meshCount() of a new object", x.meshCount(), 0);
        CHECK.same("wheelCount() of a new object", x.wheelCount(), 0);
        CHECK.same("starCount() of a new object", x.starCount(), 0);
        CHECK.same("turnedTeeth() of a new object", x.turnedTeeth(), 0);
        CHECK.same("trainCount() of a new object", x.trainCount(), 0);
        CHECK.same("trainCountByUnions() of a new object", x.trainCountByUnions(), 0);
        CHECK.same("undoCount() of a new object", x.undoCount(), 0);
        CHECK.yes("isConsistent() of a new object", x.isConsistent());
        CHECK.same("passHours(1) of a new object", x.passHours(1), 1);
        CHECK.same("save() of another new object", new GearObservatory().save(), 0);
    }

    private static void promise2AddGear() {
        GearObservatory x = new GearObservatory();
        CHECK.badArgument("addGear(7)", () -> x.addGear(7));
        CHECK.badArgument("addGear(61)", () -> x.addGear(61));
        CHECK.badArgument("addGear(-8)", () -> x.addGear(-8));
        CHECK.badArgument("addGear(0)", () -> x.addGear(0));
        CHECK.badArgument("addGear(least int)", () -> x.addGear(Integer.MIN_VALUE));
        CHECK.badArgument("addGear(greatest int)", () -> x.addGear(Integer.MAX_VALUE));
        CHECK.same("addGear(8)", x.addGear(8), 0);
        CHECK.same("addGear(60)", x.addGear(60), 1);
        for (int i = 2; i < 10; i++) {
            CHECK.same("addGear " + i, x.addGear(10 + i), i);
        }
        CHECK.badState("addGear beyond ten", () -> x.addGear(8));
        CHECK.badArgument("addGear(7) beyond ten: the argument decides", () -> x.addGear(7));
        CHECK.same("gears after ten", x.gearCount(), 10);
        CHECK.same("teeth(0)", x.teeth(0), 8);
        CHECK.same("teeth(1)", x.teeth(1), 60);
        CHECK.same("teeth(9)", x.teeth(9), 19);
        CHECK.same("position(9)", x.position(9), 0);
    }

    private static void promise3Mesh() {
        GearObservatory x = withGears(20, 30, 40);
        CHECK.same("mesh(0, 1, 0)", x.mesh(0, 1, 0), 1);
        CHECK.same("gap of a new mesh", x.gap(0, 1), 0);
        CHECK.same("mesh(2, 1, 5)", x.mesh(2, 1, 5), 2);
        CHECK.same("slack(1, 2)", x.slack(1, 2), 5);
        CHECK.noIndex("mesh(-1, 0, 0)", () -> x.mesh(-1, 0, 0));
        CHECK.noIndex("mesh(0, -1, 0)", () -> x.mesh(0, -1, 0));
        CHECK.noIndex("mesh(3, 0, 0)", () -> x.mesh(3, 0, 0));
        CHECK.noIndex("mesh(0, 3, 0)", () -> x.mesh(0, 3, 0));
        CHECK.noIndex("mesh(0, 3, 6): the index decides", () -> x.mesh(0, 3, 6));
        CHECK.noIndex("mesh(greatest, least, 6)", () -> x.mesh(Integer.MAX_VALUE, Integer.MIN_VALUE, 6));
        CHECK.badArgument("mesh(0, 2, 6): the slack decides", () -> x.mesh(0, 2, 6));
        CHECK.badArgument("mesh(0, 0, -1)", () -> x.mesh(0, 0, -1));
        CHECK.badState("mesh(0, 2, 0)", () -> x.mesh(0, 2, 0));
        CHECK.badState("mesh(1, 1, 0)", () -> x.mesh(1, 1, 0));
        CHECK.badState("mesh(1, 0, 0)", () -> x.mesh(1, 0, 0));
        CHECK.same("meshCount()", x.meshCount(), 2);
    }

    private static void promise3RingsAreRefused() {
        GearObservatory x = withGears(8, 9, 10, 11, 12, 13, 14, 15, 16, 17);
        for (int i = 0; i < 9; i++) {
            CHECK.same("mesh " + i, x.mesh(i + 1, i, i % 6), i + 1);
        }
        for (int first = 0; first < 10; first++) {
            for (int second = 0; second < 10; second++) {
                int a = first;
                int b = second;
                CHECK.badState("mesh(" + a + ", " + b + ", 1) in a chain of ten", () -> x.mesh(a, b, 1));
            }
        }
        CHECK.same("meshes of a chain of ten", x.meshCount(), 9);
        x.part(4, 5);
        CHECK.same("mesh of the two halves", x.mesh(0, 9, 1), 9);
    }

    private static void promise4Part() {
        GearObservatory x = withGears(20, 30, 40);
        x.mesh(0, 1, 3);
        x.turn(0, -2);
        CHECK.noIndex("part(0, 3)", () -> x.part(0, 3));
        CHECK.noIndex("part(-1, 0)", () -> x.part(-1, 0));
        CHECK.noElement("part(0, 2)", () -> x.part(0, 2));
        CHECK.noElement("part(0, 0)", () -> x.part(0, 0));
        CHECK.same("part(1, 0)", x.part(1, 0), 2);
        CHECK.noElement("part(0, 1) again", () -> x.part(0, 1));
        CHECK.same("meshCount() after part", x.meshCount(), 0);
        CHECK.no("areConnected after part", x.areConnected(0, 1));
        CHECK.same("mesh after part", x.mesh(0, 1, 4), 1);
        CHECK.same("gap of the mesh made again", x.gap(0, 1), 0);
    }

    private static void promise4PartKeepsOtherMeshes() {
        GearObservatory x = withGears(20, 21, 22, 23, 24);
        x.mesh(0, 1, 1);
        x.mesh(1, 2, 2);
        x.mesh(2, 3, 3);
        x.mesh(3, 4, 4);
        x.turn(4, -9);
        CHECK.same("part(1, 2) of four", x.part(1, 2), 2);
        CHECK.same("meshes left", x.meshCount(), 3);
        CHECK.yes("doMesh(0, 1) left", x.doMesh(0, 1));
        CHECK.no("doMesh(1, 2) parted", x.doMesh(1, 2));
        CHECK.same("slack(2, 3) left", x.slack(2, 3), 3);
        CHECK.same("gap(2, 3) left", x.gap(2, 3), 0);
        CHECK.same("slack(3, 4) left", x.slack(3, 4), 4);
        CHECK.same("gap(3, 4) left", x.gap(3, 4), 4);
        CHECK.same("slack(0, 1) left", x.slack(0, 1), 1);
        CHECK.no("areConnected(0, 4)", x.areConnected(0, 4));
    }

    private static void promise5Turn() {
        GearObservatory x = withGears(20, 30);
        CHECK.noIndex("turn(-1, 1)", () -> x.turn(-1, 1));
        CHECK.noIndex("turn(2, 1)", () -> x.turn(2, 1));
        CHECK.noIndex("turn(2, 0): the index decides", () -> x.turn(2, 0));
        CHECK.badArgument("turn(0, 0)", () -> x.turn(0, 0));
        CHECK.badArgument("turn(0, 100)", () -> x.turn(0, 100));
        CHECK.badArgument("turn(0, -100)", () -> x.turn(0, -100));
        CHECK.badArgument("turn(0, least int)", () -> x.turn(0, Integer.MIN_VALUE));
        CHECK.same("turn(0, 99)", x.turn(0, 99), 1);
        CHECK.same("turn(0, 99) again", x.turn(0, 99), 1);
        CHECK.same("turn(1, -99)", x.turn(1, -99), 1);
        CHECK.same("position(0) is not taken modulo", x.position(0), 198);
        CHECK.same("position(1)", x.position(1), -99);
    }

    private static void promise5TurnThroughGaps() {
        GearObservatory x = withGears(20, 30, 12);
        x.mesh(0, 1, 2);
        x.mesh(1, 2, 3);
        CHECK.same("turn(0, 5)", x.turn(0, 5), 3);
        CHECK.same("position(1)", x.position(1), -5);
        CHECK.same("position(2)", x.position(2), 2);
        CHECK.same("gap(0, 1)", x.gap(0, 1), 0);
        CHECK.same("gap(1, 2)", x.gap(1, 2), 3);
        CHECK.same("turn(0, -1) is taken by the gap", x.turn(0, -1), 1);
        CHECK.same("gap(0, 1) after it", x.gap(0, 1), 1);
        CHECK.same("position(1) after it", x.position(1), -5);
        CHECK.same("turn(0, 1) is taken by the gap", x.turn(0, 1), 1);
        CHECK.same("gap(0, 1) back", x.gap(0, 1), 0);
        CHECK.same("turn(0, -3)", x.turn(0, -3), 2);
        CHECK.same("gap(0, 1) is full", x.gap(0, 1), 2);
        CHECK.same("gap(1, 2) is one less", x.gap(1, 2), 2);
        CHECK.same("position(1) turned back by one", x.position(1), -4);
        CHECK.same("position(2) stood", x.position(2), 2);
        CHECK.same("turn(2, 4) from the other end", x.turn(2, 4), 3);
        CHECK.same("position(0) in the end", x.position(0), 4);
        CHECK.same("position(1) in the end", x.position(1), -6);
    }

    private static void promise5TurnSpreadsInAllDirections() {
        GearObservatory x = withGears(20, 30, 40, 50, 60);
        x.mesh(1, 0, 0);
        x.mesh(2, 0, 1);
        x.mesh(0, 3, 5);
        CHECK.same("turn(0, -4) in a star", x.turn(0, -4), 3);
        CHECK.same("position(1) without slack", x.position(1), 4);
        CHECK.same("position(2) with slack 1", x.position(2), 3);
        CHECK.same("position(3) with slack 5", x.position(3), 0);
        CHECK.same("gap(0, 3)", x.gap(0, 3), 4);
        CHECK.same("position(4) in no train", x.position(4), 0);
        CHECK.same("turn(1, -2) reaches all but the gap", x.turn(1, -2), 3);
        CHECK.same("position(0)", x.position(0), -2);
        CHECK.same("gap(0, 2) after it", x.gap(0, 2), 0);
        CHECK.same("position(2) after it", x.position(2), 2);
        CHECK.same("gap(0, 3) after it", x.gap(0, 3), 2);
    }

    private static void promises6To9Getters() {
        GearObservatory x = withGears(20);
        CHECK.same("gearCount()", x.gearCount(), 1);
        CHECK.same("teeth(0)", x.teeth(0), 20);
        CHECK.noIndex("teeth(1)", () -> x.teeth(1));
        CHECK.noIndex("teeth(-1)", () -> x.teeth(-1));
        CHECK.noIndex("position(1)", () -> x.position(1));
        CHECK.noIndex("position(-1)", () -> x.position(-1));
        CHECK.noIndex("teeth(greatest int)", () -> x.teeth(Integer.MAX_VALUE));
        CHECK.noIndex("position(least int)", () -> x.position(Integer.MIN_VALUE));
        x.addGear(30);
        CHECK.same("gearCount() of two", x.gearCount(), 2);
        CHECK.same("meshCount() of none", x.meshCount(), 0);
        x.mesh(0, 1, 0);
        CHECK.same("meshCount() of one", x.meshCount(), 1);
        x.turn(1, -7);
        CHECK.same("position(0)", x.position(0), 7);
    }

    private static void promises10To12Meshes() {
        GearObservatory x = withGears(20, 30, 40);
        x.mesh(2, 0, 4);
        CHECK.yes("doMesh(0, 2)", x.doMesh(0, 2));
        CHECK.yes("doMesh(2, 0)", x.doMesh(2, 0));
        CHECK.no("doMesh(0, 1)", x.doMesh(0, 1));
        CHECK.no("doMesh(2, 2)", x.doMesh(2, 2));
        CHECK.no("doMesh(1, 1)", x.doMesh(1, 1));
        CHECK.noIndex("doMesh(0, 3)", () -> x.doMesh(0, 3) ? 1 : 0);
        CHECK.noIndex("doMesh(-1, 0)", () -> x.doMesh(-1, 0) ? 1 : 0);
        CHECK.noIndex("doMesh(0, -1)", () -> x.doMesh(0, -1) ? 1 : 0);
        x.turn(0, -3);
        CHECK.same("slack(0, 2)", x.slack(0, 2), 4);
        CHECK.same("slack(2, 0)", x.slack(2, 0), 4);
        CHECK.same("gap(0, 2)", x.gap(0, 2), 3);
        CHECK.same("gap(2, 0)", x.gap(2, 0), 3);
        CHECK.noElement("slack(0, 1)", () -> x.slack(0, 1));
        CHECK.noElement("gap(0, 1)", () -> x.gap(0, 1));
        CHECK.noElement("slack(2, 2)", () -> x.slack(2, 2));
        CHECK.noElement("gap(2, 2)", () -> x.gap(2, 2));
        CHECK.noIndex("slack(3, 0)", () -> x.slack(3, 0));
        CHECK.noIndex("slack(0, -1)", () -> x.slack(0, -1));
        CHECK.noIndex("gap(0, 3)", () -> x.gap(0, 3));
        CHECK.noIndex("gap(-1, 0)", () -> x.gap(-1, 0));
    }

    private static void promises13And14Connections() {
        GearObservatory x = withGears(20, 30, 40, 50);
        x.mesh(0, 1, 0);
        x.mesh(2, 1, 0);
        CHECK.yes("areConnected(0, 2)", x.areConnected(0, 2));
        CHECK.yes("areConnected(2, 0)", x.areConnected(2, 0));
        CHECK.yes("areConnected(3, 3)", x.areConnected(3, 3));
        CHECK.no("areConnected(0, 3)", x.areConnected(0, 3));
        CHECK.noIndex("areConnected(0, 4)", () -> x.areConnected(0, 4) ? 1 : 0);
        CHECK.noIndex("areConnected(-1, 0)", () -> x.areConnected(-1, 0) ? 1 : 0);
        CHECK.noIndex("areConnected(4, 4)", () -> x.areConnected(4, 4) ? 1 : 0);
        CHECK.same("trainSize(0)", x.trainSize(0), 3);
        CHECK.same("trainSize(1)", x.trainSize(1), 3);
        CHECK.same("trainSize(3)", x.trainSize(3), 1);
        CHECK.noIndex("trainSize(4)", () -> x.trainSize(4));
        CHECK.noIndex("trainSize(-1)", () -> x.trainSize(-1));
    }

    private static void promises15And16Trains() {
        GearObservatory x = new GearObservatory();
        for (int i = 0; i < 10; i++) {
            x.addGear(8 + i);
            CHECK.same("trainCount() of single gears", x.trainCount(), i + 1);
            CHECK.same("trainCountByUnions() of single gears", x.trainCountByUnions(), i + 1);
        }
        int[][] pairs = {{9, 8}, {0, 1}, {7, 8}, {1, 2}, {9, 0}, {3, 4}, {5, 4}, {5, 6}, {6, 2}};
        for (int i = 0; i < pairs.length; i++) {
            x.mesh(pairs[i][0], pairs[i][1], 2);
            CHECK.same("trainCount() after mesh " + i, x.trainCount(), 9 - i);
            CHECK.same("trainCountByUnions() after mesh " + i, x.trainCountByUnions(), 9 - i);
        }
        CHECK.same("trainSize(4) of one train", x.trainSize(4), 10);
        x.part(9, 0);
        CHECK.same("trainCount() after part", x.trainCount(), 2);
        CHECK.same("trainCountByUnions() after part", x.trainCountByUnions(), 2);
        CHECK.same("trainSize(7) after part", x.trainSize(7), 3);
    }

    private static void promise17TurnedTeeth() {
        GearObservatory x = withGears(20, 30, 12);
        x.mesh(0, 1, 2);
        x.turn(0, 5);
        CHECK.same("turnedTeeth() of two gears", x.turnedTeeth(), 10);
        x.turn(0, -5);
        CHECK.same("turnedTeeth() counts either direction", x.turnedTeeth(), 18);
        x.turn(2, -99);
        CHECK.same("turnedTeeth() of all trains", x.turnedTeeth(), 117);
        x.undo();
        CHECK.same("turnedTeeth() after undo", x.turnedTeeth(), 18);
    }

    private static void failedCallsChangeNothing() {
        GearObservatory x = withGears(20, 30);
        x.mesh(0, 1, 2);
        x.turn(0, -1);
        int undoable = x.undoCount();
        CHECK.badArgument("turn(0, 0)", () -> x.turn(0, 0));
        CHECK.badArgument("addGear(7)", () -> x.addGear(7));
        CHECK.badState("mesh(0, 1, 1)", () -> x.mesh(0, 1, 1));
        CHECK.noElement("part(0, 0)", () -> x.part(0, 0));
        CHECK.same("undoCount() after failed calls", x.undoCount(), undoable);
        CHECK.same("gearCount() after failed calls", x.gearCount(), 2);
        CHECK.same("meshCount() after failed calls", x.meshCount(), 1);
        CHECK.same("gap(0, 1) after failed calls", x.gap(0, 1), 1);
        CHECK.same("position(0) after failed calls", x.position(0), -1);
    }
}
