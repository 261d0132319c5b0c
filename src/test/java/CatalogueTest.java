/** Promises 40 to 49: catalogue, statistics, output and consistency. */
public final class CatalogueTest {
    private static final Checks CHECK = new Checks("CatalogueTest");

    public static void main(String[] args) {
        promise40Catalogue();
        promises40To42Keys();
        promise41Forget();
        promises43And44Entries();
        promises43And44AfterForget();
        promises43And44OfDifferentSizes();
        promise45MeanTeeth();
        promise46AlignedFraction();
        promises47And48Output();
        promises47And48LongestOutput();
        promise49IsConsistent();
        CHECK.end();
    }

    private static void promise40Catalogue() {
        GearObservatory x = GearsTest.withGears(20);
        String letters = "azmbcd";
        for (int i = 0; i < 6; i++) {
            CHECK.same("catalogue " + i, x.catalogue(letters.charAt(i), i == 1 ? 9 : i), i + 1);
        }
        CHECK.badState("catalogue beyond six", () -> x.catalogue('a', 1));
        CHECK.badArgument("catalogue('A', 0) beyond six: the argument decides", () -> x.catalogue('A', 0));
        CHECK.same("catalogue in place beyond six", x.catalogue('a', 0), 6);
        CHECK.same("undoCount() after catalogue in place", x.undoCount(), 8);
        CHECK.same("forget", x.forget('z', 9), 5);
        CHECK.same("catalogue after forget", x.catalogue('a', 1), 6);
        CHECK.same("catalogue without gears", new GearObservatory().catalogue('a', 0), 1);
    }

    private static void promises40To42Keys() {
        GearObservatory x = GearsTest.withGears(20);
        char[] wrongLetters = {'`', '{', 'A', 'Z', '0', 0, 255, 65535, 'a' + 256};
        for (char letter : wrongLetters) {
            CHECK.badArgument("catalogue of letter " + (int) letter, () -> x.catalogue(letter, 0));
            CHECK.badArgument("forget of letter " + (int) letter, () -> x.forget(letter, 0));
            CHECK.badArgument("isCatalogued of letter " + (int) letter, () -> x.isCatalogued(letter, 0) ? 1 : 0);
            CHECK.badArgument("entryPosition of letter " + (int) letter, () -> x.entryPosition(letter, 0, 0));
            CHECK.badArgument("changedSince of letter " + (int) letter, () -> x.changedSince(letter, 0));
        }
        int[] wrongDigits = {-1, 10, '0', Integer.MIN_VALUE, Integer.MAX_VALUE};
        for (int digit : wrongDigits) {
            CHECK.badArgument("catalogue of digit " + digit, () -> x.catalogue('a', digit));
            CHECK.badArgument("forget of digit " + digit, () -> x.forget('a', digit));
            CHECK.badArgument("isCatalogued of digit " + digit, () -> x.isCatalogued('a', digit) ? 1 : 0);
            CHECK.badArgument("entryPosition of digit " + digit, () -> x.entryPosition('a', digit, 0));
            CHECK.badArgument("changedSince of digit " + digit, () -> x.changedSince('a', digit));
        }
        CHECK.same("undoCount() after failed calls", x.undoCount(), 1);
        x.catalogue('b', 3);
        CHECK.yes("isCatalogued('b', 3)", x.isCatalogued('b', 3));
        CHECK.no("isCatalogued('b', 2)", x.isCatalogued('b', 2));
        CHECK.no("isCatalogued('a', 3)", x.isCatalogued('a', 3));
        CHECK.no("isCatalogued('a', 0)", x.isCatalogued('a', 0));
        CHECK.no("isCatalogued('z', 9)", x.isCatalogued('z', 9));
    }

    private static void promise41Forget() {
        GearObservatory x = GearsTest.withGears(20);
        CHECK.noElement("forget of none", () -> x.forget('a', 0));
        x.catalogue('a', 0);
        x.catalogue('a', 1);
        x.catalogue('b', 0);
        CHECK.noElement("forget('b', 1)", () -> x.forget('b', 1));
        CHECK.same("forget('a', 0)", x.forget('a', 0), 2);
        CHECK.no("isCatalogued('a', 0)", x.isCatalogued('a', 0));
        CHECK.yes("isCatalogued('a', 1)", x.isCatalogued('a', 1));
        CHECK.yes("isCatalogued('b', 0)", x.isCatalogued('b', 0));
        CHECK.noElement("forget('a', 0) again", () -> x.forget('a', 0));
        CHECK.same("forget('b', 0)", x.forget('b', 0), 1);
        CHECK.same("forget('a', 1)", x.forget('a', 1), 0);
        x.undo();
        CHECK.yes("isCatalogued('a', 1) after undo", x.isCatalogued('a', 1));
    }

    private static void promises43And44Entries() {
        GearObservatory x = GearsTest.withGears(20, 30);
        x.turn(0, 12);
        x.turn(1, -9);
        x.catalogue('k', 7);
        CHECK.same("entryPosition('k', 7, 0)", x.entryPosition('k', 7, 0), 12);
        CHECK.same("entryPosition('k', 7, 1)", x.entryPosition('k', 7, 1), -9);
        CHECK.noElement("entryPosition('k', 7, 2)", () -> x.entryPosition('k', 7, 2));
        CHECK.noElement("entryPosition('k', 7, -1)", () -> x.entryPosition('k', 7, -1));
        CHECK.noElement("entryPosition('k', 8, 0)", () -> x.entryPosition('k', 8, 0));
        CHECK.noElement("changedSince('k', 8)", () -> x.changedSince('k', 8));
        CHECK.same("changedSince of none", x.changedSince('k', 7), 0);
        x.addGear(40);
        x.turn(2, 5);
        CHECK.noElement("entryPosition of a gear added later", () -> x.entryPosition('k', 7, 2));
        CHECK.same("changedSince does not count a gear added later", x.changedSince('k', 7), 0);
        x.turn(1, 20);
        CHECK.same("changedSince of one", x.changedSince('k', 7), 1);
        x.turn(0, 20);
        CHECK.same("changedSince of a whole revolution", x.changedSince('k', 7), 2);
        CHECK.same("entryPosition stays", x.entryPosition('k', 7, 0), 12);
        x.turn(1, -20);
        CHECK.same("changedSince of a gear turned back", x.changedSince('k', 7), 1);
        x.catalogue('k', 7);
        CHECK.same("entryPosition of the new entry", x.entryPosition('k', 7, 2), 5);
        CHECK.same("entryPosition of the new entry", x.entryPosition('k', 7, 0), 32);
        CHECK.same("changedSince of the new entry", x.changedSince('k', 7), 0);
    }

    private static void promises43And44AfterForget() {
        GearObservatory x = GearsTest.withGears(20);
        for (int i = 0; i < 6; i++) {
            x.turn(0, 1);
            x.catalogue((char) ('a' + i), i);
        }
        x.addGear(30);
        x.turn(0, 1);
        x.forget('b', 1);
        x.catalogue('b', 2);
        int[] due = {1, 0, 3, 4, 5, 6};
        for (int i = 0; i < 6; i++) {
            if (i != 1) {
                char letter = (char) ('a' + i);
                int digit = i;
                CHECK.same("entryPosition of " + letter, x.entryPosition(letter, digit, 0), due[i]);
                CHECK.same("changedSince of " + letter, x.changedSince(letter, digit), 1);
                CHECK.noElement("entryPosition of gear 1", () -> x.entryPosition(letter, digit, 1));
            }
        }
        CHECK.same("entryPosition('b', 2, 0)", x.entryPosition('b', 2, 0), 7);
        CHECK.same("entryPosition('b', 2, 1)", x.entryPosition('b', 2, 1), 0);
    }

    private static void promises43And44OfDifferentSizes() {
        GearObservatory x = GearsTest.withGears(20);
        x.catalogue('a', 0);
        x.addGear(30);
        x.turn(1, 4);
        x.catalogue('b', 0);
        x.addGear(40);
        x.catalogue('c', 0);
        x.forget('a', 0);
        CHECK.same("entryPosition('b', 0, 1)", x.entryPosition('b', 0, 1), 4);
        CHECK.noElement("entryPosition('b', 0, 2)", () -> x.entryPosition('b', 0, 2));
        CHECK.same("entryPosition('c', 0, 2)", x.entryPosition('c', 0, 2), 0);
        x.turn(2, 1);
        CHECK.same("changedSince('b', 0)", x.changedSince('b', 0), 0);
        CHECK.same("changedSince('c', 0)", x.changedSince('c', 0), 1);
    }

    private static void promise45MeanTeeth() {
        GearObservatory x = new GearObservatory();
        CHECK.noMean("meanTeeth() of none", () -> (long) x.meanTeeth());
        x.addGear(20);
        CHECK.exactly("meanTeeth() of one", x.meanTeeth(), 20.0);
        x.addGear(30);
        x.addGear(12);
        CHECK.exactly("meanTeeth() of three", x.meanTeeth(), 62.0 / 3.0);
        x.addGear(60);
        x.undo();
        CHECK.exactly("meanTeeth() after undo", x.meanTeeth(), 62.0 / 3.0);
        x.turn(0, 50);
        CHECK.exactly("meanTeeth() of turned gears", x.meanTeeth(), 62.0 / 3.0);
    }

    private static void promise46AlignedFraction() {
        GearObservatory x = GearsTest.withGears(20, 36);
        CHECK.noMean("alignedFraction(0) of none", () -> (long) x.alignedFraction(0));
        CHECK.badArgument("alignedFraction(-1) of none: the argument decides", () -> (long) x.alignedFraction(-1));
        CHECK.badArgument("alignedFraction(1801) of none: the argument decides", () -> (long) x.alignedFraction(1801));
        x.addWheel(0, 4);
        x.addWheel(1, 3);
        x.addWheel(1, 6);
        CHECK.exactly("alignedFraction(1800) without stars", x.alignedFraction(1800), 0.0f);
        x.addStar(1290, 0);
        CHECK.exactly("alignedFraction(89)", x.alignedFraction(89), 0.0f);
        CHECK.exactly("alignedFraction(90)", x.alignedFraction(90), 2.0f / 3.0f);
        CHECK.exactly("alignedFraction(389)", x.alignedFraction(389), 2.0f / 3.0f);
        CHECK.exactly("alignedFraction(390)", x.alignedFraction(390), 1.0f);
        CHECK.exactly("alignedFraction(1800)", x.alignedFraction(1800), 1.0f);
        x.addStar(605, 0);
        CHECK.exactly("alignedFraction(5) to one of two stars", x.alignedFraction(5), 1.0f / 3.0f);
        CHECK.exactly("alignedFraction(4)", x.alignedFraction(4), 0.0f);
        x.addStar(2700, 0);
        CHECK.exactly("alignedFraction(0) counts a wheel at its star", x.alignedFraction(0), 1.0f / 3.0f);
        x.addWheel(0, 4);
        x.undo();
        CHECK.exactly("alignedFraction(0) after undo", x.alignedFraction(0), 1.0f / 3.0f);
        CHECK.badArgument("alignedFraction(-1)", () -> (long) x.alignedFraction(-1));
        CHECK.badArgument("alignedFraction(1801)", () -> (long) x.alignedFraction(1801));
    }

    private static void output(GearObservatory x, int gear, String due) {
        int length = x.writeGear(gear);
        CHECK.same("writeGear(" + gear + ")", length, due.length());
        String got = Checks.outputOf(x, length);
        CHECK.yes("output " + got + ", due is " + due, got.equals(due));
        CHECK.noIndex("outputCharacter at the length", () -> x.outputCharacter(length));
        CHECK.noIndex("outputCharacter(-1)", () -> x.outputCharacter(-1));
    }

    private static void promises47And48Output() {
        GearObservatory x = GearsTest.withGears(20, 8, 60, 40);
        CHECK.noIndex("outputCharacter(0) at first", () -> x.outputCharacter(0));
        CHECK.noIndex("writeGear(4)", () -> x.writeGear(4));
        CHECK.noIndex("writeGear(-1)", () -> x.writeGear(-1));
        output(x, 0, "20@0");
        x.mesh(3, 2, 4);
        x.mesh(0, 3, 3);
        x.turn(3, -2);
        output(x, 3, "40@-2-0/2-2/2");
        x.turn(3, -10);
        output(x, 3, "40@-12-0/3-2/4");
        output(x, 2, "60@8-3/4");
        output(x, 0, "20@9-3/3");
        output(x, 1, "8@0");
        x.turn(1, 99);
        x.turn(1, 1);
        output(x, 1, "8@100");
        CHECK.noIndex("writeGear(4) later", () -> x.writeGear(4));
        CHECK.same("the output stays after a failed call", x.outputCharacter(4), '0');
        x.undo();
        CHECK.same("the output is not undone", x.outputCharacter(2), '1');
        x.save();
        x.writeGear(3);
        x.restore();
        CHECK.same("the output is not restored", x.outputCharacter(0), '4');
    }

    private static void promises47And48LongestOutput() {
        GearObservatory x = GearsTest.withGears(8, 9, 10, 11, 12, 13, 14, 15, 16, 17);
        for (int gear = 8; gear >= 0; gear--) {
            x.mesh(9, gear, 5);
        }
        for (int i = 0; i < 120; i++) {
            x.turn(9, -99);
        }
        output(x, 9, "17@-11880-0/5-1/5-2/5-3/5-4/5-5/5-6/5-7/5-8/5");
        output(x, 0, "8@11875-9/5");
    }

    private static void promise49IsConsistent() {
        GearObservatory x = new GearObservatory();
        CHECK.yes("isConsistent() of nothing", x.isConsistent());
        for (int i = 0; i < 10; i++) {
            x.addGear(17 + 4 * i);
            if (i > 0 && i != 6) {
                x.mesh(i, i / 2, i % 6);
            }
            x.turn(i, 7 - 3 * i);
            CHECK.yes("isConsistent() of " + i, x.isConsistent());
        }
    }
}
