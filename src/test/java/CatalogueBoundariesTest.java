/** The boundary cases of promises 40 to 49: one test for each sentence that names one. */
public final class CatalogueBoundariesTest {
    private static final Checks CHECK = new Checks("CatalogueBoundariesTest");
    private static final int LEAST = Integer.MIN_VALUE;
    private static final int MOST = Integer.MAX_VALUE;
    private static final char[] NO_LETTERS = {'`', '{', '@', 'A', 'Z', '0', ' ', 0, 127, 255, 'a' + 256, 65535};
    private static final int[] NO_DIGITS = {-1, 10, '0', '9', 256, LEAST, MOST};

    public static void main(String[] args) {
        promises40To44LettersFromAToZ();
        promises40To44DigitsFrom0To9();
        promises40To42EveryKey();
        promise40SixEntries();
        promise40InPlaceOfAnEntry();
        promise40TheListedFirstDecides();
        promise41NoEntryUnderThisKey();
        promise41TheLastEntry();
        promise41OneOfSix();
        promise41OneOfSixSizes();
        promise42NoneAndSix();
        promise43NoEntryUnderThisKey();
        promise43ItDoesNotHoldThisGear();
        promise43NoGearsAndTen();
        promise43TheListedFirstDecides();
        promise44NoEntryUnderThisKey();
        promise44NoneAndAll();
        promise44AWholeRevolutionIsDifferent();
        promise44GearsAddedLater();
        promise45NoGears();
        promise45LeastAndMost();
        promise46ToleranceFrom0To1800();
        promise46NoWheels();
        promise46NoStars();
        promise46AtMostATolerance();
        promise46AtLeastOneStar();
        promise47NoSuchGear();
        promise47NoMesh();
        promise47AscendingOrder();
        promise47PositionsOfEachLength();
        promise47TheLongestOutput();
        promise47ReplacesThePreviousOne();
        promise48EmptyAtFirst();
        promise48NoSuchCharacter();
        promise49NothingAndEverything();
        CHECK.end();
    }

    // ---- states ----

    private static Trials withNothing() {
        return new Trials(CHECK, "nothing", x -> { });
    }

    /** An entry a0 of two gears, and a third gear added later. */
    private static void oneEntryOf(GearObservatory x) {
        x.addGear(20);
        x.addGear(30);
        x.turn(0, 12);
        x.turn(1, -9);
        x.catalogue('a', 0);
        x.addGear(40);
    }

    private static Trials withOne() {
        return new Trials(CHECK, "one entry", CatalogueBoundariesTest::oneEntryOf);
    }

    private static void sixEntriesOf(GearObservatory x) {
        x.addGear(20);
        for (int entry = 0; entry < 6; entry++) {
            x.turn(0, 1);
            x.catalogue(entry == 5 ? 'z' : 'a', entry == 5 ? 9 : entry);
        }
    }

    private static Trials withSix() {
        return new Trials(CHECK, "six entries", CatalogueBoundariesTest::sixEntriesOf);
    }

    // ---- keys ----

    private static void promises40To44LettersFromAToZ() {
        Trials on = withOne();
        for (char letter : NO_LETTERS) {
            String key = "(sign " + (int) letter + ", 0)";
            on.badArgument("catalogue" + key, x -> x.catalogue(letter, 0));
            on.badArgument("forget" + key, x -> x.forget(letter, 0));
            on.badArgument("isCatalogued" + key, x -> x.isCatalogued(letter, 0) ? 1 : 0);
            on.badArgument("entryPosition" + key, x -> x.entryPosition(letter, 0, 0));
            on.badArgument("changedSince" + key, x -> x.changedSince(letter, 0));
        }
    }

    private static void promises40To44DigitsFrom0To9() {
        Trials on = withOne();
        for (int digit : NO_DIGITS) {
            String key = "('a', " + digit + ")";
            on.badArgument("catalogue" + key, x -> x.catalogue('a', digit));
            on.badArgument("forget" + key, x -> x.forget('a', digit));
            on.badArgument("isCatalogued" + key, x -> x.isCatalogued('a', digit) ? 1 : 0);
            on.badArgument("entryPosition" + key, x -> x.entryPosition('a', digit, 0));
            on.badArgument("changedSince" + key, x -> x.changedSince('a', digit));
        }
    }

    private static void promises40To42EveryKey() {
        for (char letter = 'a'; letter <= 'z'; letter++) {
            GearObservatory x = GearsTest.withGears(20);
            for (int digit = 0; digit < 10; digit++) {
                String key = "" + letter + digit;
                x.turn(0, 1);
                CHECK.no("isCatalogued " + key + " before", x.isCatalogued(letter, digit));
                CHECK.same("catalogue " + key, x.catalogue(letter, digit), 1);
                CHECK.yes("isCatalogued " + key, x.isCatalogued(letter, digit));
                CHECK.same("entryPosition of " + key, x.entryPosition(letter, digit, 0), digit + 1);
                CHECK.same("changedSince " + key, x.changedSince(letter, digit), 0);
                CHECK.same("forget " + key, x.forget(letter, digit), 0);
                CHECK.no("isCatalogued " + key + " after forget", x.isCatalogued(letter, digit));
            }
        }
    }

    // ---- promises 40 to 42 ----

    private static void promise40SixEntries() {
        GearObservatory x = GearsTest.withGears(20);
        for (int entry = 0; entry < 6; entry++) {
            CHECK.same("catalogue: entry " + entry, x.catalogue('q', 9 - entry), entry + 1);
        }
        Trials on = withSix();
        on.badState("catalogue('a', 5)", y -> y.catalogue('a', 5));
        on.badState("catalogue('b', 0): the same digit", y -> y.catalogue('b', 0));
        on.badState("catalogue('a', 9): letter and digit of two keys", y -> y.catalogue('a', 9));
        on.gives("catalogue('b', 0) after forget", 6, y -> {
            y.forget('a', 0);
            return y.catalogue('b', 0);
        });
        on.gives("catalogue('b', 0) after undo", 6, y -> {
            y.undo();
            return y.catalogue('b', 0);
        });
    }

    private static void promise40InPlaceOfAnEntry() {
        Trials on = withSix();
        for (int entry = 0; entry < 6; entry++) {
            char letter = entry == 5 ? 'z' : 'a';
            int digit = entry == 5 ? 9 : entry;
            on.gives("catalogue in place of " + letter + digit, 6, x -> x.catalogue(letter, digit));
            on.gives("entryPosition in place of " + letter + digit, 16, x -> {
                x.turn(0, 10);
                x.catalogue(letter, digit);
                return x.entryPosition(letter, digit, 0);
            });
            on.gives("entryPosition beside " + letter + digit, 4, x -> {
                x.turn(0, 10);
                x.catalogue(letter, digit);
                return x.entryPosition('a', 3, 0) + (letter == 'a' && digit == 3 ? 4 - 16 : 0);
            });
        }
        withOne().gives("catalogue in place of the only one", 1, x -> x.catalogue('a', 0));
        withOne().gives("entryPosition of a gear added later, in place", 0, x -> {
            x.catalogue('a', 0);
            return x.entryPosition('a', 0, 2);
        });
    }

    private static void promise40TheListedFirstDecides() {
        Trials on = withSix();
        on.badArgument("catalogue('{', 0)", x -> x.catalogue('{', 0));
        on.badArgument("catalogue('`', 0)", x -> x.catalogue('`', 0));
        on.badArgument("catalogue('b', 10)", x -> x.catalogue('b', 10));
        on.badArgument("catalogue('b', -1)", x -> x.catalogue('b', -1));
    }

    private static void promise41NoEntryUnderThisKey() {
        withNothing().noElement("forget('a', 0)", x -> x.forget('a', 0));
        Trials on = withOne();
        on.noElement("forget('a', 1)", x -> x.forget('a', 1));
        on.noElement("forget('b', 0)", x -> x.forget('b', 0));
        on.noElement("forget('z', 9)", x -> x.forget('z', 9));
        on.badArgument("forget('{', 9)", x -> x.forget('{', 9));
        withSix().noElement("forget('a', 5)", x -> x.forget('a', 5));
    }

    private static void promise41TheLastEntry() {
        Trials on = withOne();
        on.gives("forget('a', 0)", 0, x -> x.forget('a', 0));
        Trials forgotten = new Trials(CHECK, "a forgotten entry", x -> {
            oneEntryOf(x);
            x.forget('a', 0);
        });
        forgotten.noElement("forget('a', 0)", x -> x.forget('a', 0));
        forgotten.noElement("entryPosition('a', 0, 0)", x -> x.entryPosition('a', 0, 0));
        forgotten.noElement("changedSince('a', 0)", x -> x.changedSince('a', 0));
        forgotten.asks("isCatalogued('a', 0)", 0, x -> x.isCatalogued('a', 0) ? 1 : 0);
        forgotten.gives("catalogue('a', 0)", 1, x -> x.catalogue('a', 0));
    }

    private static void promise41OneOfSix() {
        for (int entry = 0; entry < 6; entry++) {
            GearObservatory x = Looks.made(CatalogueBoundariesTest::sixEntriesOf);
            char letter = entry == 5 ? 'z' : 'a';
            int digit = entry == 5 ? 9 : entry;
            CHECK.same("forget of entry " + entry + " of six", x.forget(letter, digit), 5);
            for (int other = 0; other < 6; other++) {
                char otherLetter = other == 5 ? 'z' : 'a';
                int otherDigit = other == 5 ? 9 : other;
                CHECK.same("isCatalogued after forget", x.isCatalogued(otherLetter, otherDigit) ? 1 : 0,
                        other == entry ? 0 : 1);
                if (other != entry) {
                    CHECK.same("entryPosition after forget", x.entryPosition(otherLetter, otherDigit, 0), other + 1);
                }
            }
        }
    }

    /** Each entry holds one gear more than the one before it, and keeps that when another one is removed. */
    private static void promise41OneOfSixSizes() {
        for (int entry = 0; entry < 6; entry++) {
            GearObservatory x = new GearObservatory();
            for (int gear = 0; gear < 6; gear++) {
                x.addGear(20 + gear);
                x.turn(gear, 10 + gear);
                x.catalogue('s', gear);
            }
            x.turn(0, 1);
            x.turn(5, 1);
            x.forget('s', entry);
            for (int other = 0; other < 6; other++) {
                int digit = other;
                if (other == entry) {
                    CHECK.noElement("changedSince of the removed one", () -> x.changedSince('s', digit));
                    continue;
                }
                int changed = other == 5 ? 2 : 1;
                CHECK.same("changedSince of " + other + " after forget", x.changedSince('s', other), changed);
                CHECK.same("last gear of " + other, x.entryPosition('s', other, other), 10 + other);
                CHECK.noElement("gear behind the last of " + other, () -> x.entryPosition('s', digit, digit + 1));
            }
        }
    }

    private static void promise42NoneAndSix() {
        withNothing().asks("isCatalogued('a', 0)", 0, x -> x.isCatalogued('a', 0) ? 1 : 0);
        withNothing().asks("isCatalogued('z', 9)", 0, x -> x.isCatalogued('z', 9) ? 1 : 0);
        Trials on = withSix();
        on.asks("isCatalogued('a', 0)", 1, x -> x.isCatalogued('a', 0) ? 1 : 0);
        on.asks("isCatalogued('z', 9)", 1, x -> x.isCatalogued('z', 9) ? 1 : 0);
        on.asks("isCatalogued('z', 0)", 0, x -> x.isCatalogued('z', 0) ? 1 : 0);
        on.asks("isCatalogued('a', 9)", 0, x -> x.isCatalogued('a', 9) ? 1 : 0);
    }

    // ---- promises 43 and 44 ----

    private static void promise43NoEntryUnderThisKey() {
        withNothing().noElement("entryPosition('a', 0, 0)", x -> x.entryPosition('a', 0, 0));
        Trials on = withOne();
        on.noElement("entryPosition('a', 1, 0)", x -> x.entryPosition('a', 1, 0));
        on.noElement("entryPosition('b', 0, 0)", x -> x.entryPosition('b', 0, 0));
        on.noElement("entryPosition('z', 9, -1)", x -> x.entryPosition('z', 9, -1));
    }

    private static void promise43ItDoesNotHoldThisGear() {
        Trials on = withOne();
        for (int gear : new int[] {-1, 2, 3, 10, LEAST, MOST}) {
            on.noElement("entryPosition('a', 0, " + gear + ")", x -> x.entryPosition('a', 0, gear));
        }
        on.asks("entryPosition of the first gear", 12, x -> x.entryPosition('a', 0, 0));
        on.asks("entryPosition of the last gear", -9, x -> x.entryPosition('a', 0, 1));
        on.gives("entryPosition after turning", -9, x -> {
            x.turn(1, 9);
            return x.entryPosition('a', 0, 1);
        });
    }

    private static void promise43NoGearsAndTen() {
        Trials none = new Trials(CHECK, "an entry of no gears", x -> x.catalogue('a', 0));
        none.noElement("entryPosition('a', 0, 0)", x -> x.entryPosition('a', 0, 0));
        none.asks("changedSince('a', 0)", 0, x -> x.changedSince('a', 0));
        none.asks("isCatalogued('a', 0)", 1, x -> x.isCatalogued('a', 0) ? 1 : 0);
        Trials ten = new Trials(CHECK, "an entry of ten gears", x -> {
            GearBoundariesTest.tenGears(x);
            for (int gear = 0; gear < 10; gear++) {
                x.turn(gear, 10 * gear - 45);
            }
            x.catalogue('a', 0);
        });
        for (int gear = 0; gear < 10; gear++) {
            int one = gear;
            ten.asks("entryPosition('a', 0, " + gear + ")", 10 * gear - 45, x -> x.entryPosition('a', 0, one));
        }
        ten.noElement("entryPosition('a', 0, 10)", x -> x.entryPosition('a', 0, 10));
    }

    private static void promise43TheListedFirstDecides() {
        Trials on = withOne();
        on.badArgument("entryPosition('{', 0, -1)", x -> x.entryPosition('{', 0, -1));
        on.badArgument("entryPosition('b', 10, 0)", x -> x.entryPosition('b', 10, 0));
        on.badArgument("changedSince('b', -1)", x -> x.changedSince('b', -1));
    }

    private static void promise44NoEntryUnderThisKey() {
        withNothing().noElement("changedSince('a', 0)", x -> x.changedSince('a', 0));
        withOne().noElement("changedSince('a', 1)", x -> x.changedSince('a', 1));
        withOne().noElement("changedSince('b', 0)", x -> x.changedSince('b', 0));
    }

    private static void promise44NoneAndAll() {
        GearObservatory x = Looks.made(y -> GearBoundariesTest.chainOfTen(y, 0));
        x.catalogue('a', 0);
        CHECK.same("changedSince of none", x.changedSince('a', 0), 0);
        x.turn(4, 1);
        CHECK.same("changedSince of all ten", x.changedSince('a', 0), 10);
        x.turn(7, 1);
        CHECK.same("changedSince of none after turning back", x.changedSince('a', 0), 0);
        x.part(8, 9);
        x.turn(9, -1);
        CHECK.same("changedSince of the last gear alone", x.changedSince('a', 0), 1);
    }

    private static void promise44AWholeRevolutionIsDifferent() {
        Trials on = withOne();
        on.gives("changedSince after a whole revolution", 1, x -> {
            x.turn(0, 20);
            return x.changedSince('a', 0);
        });
        on.gives("changedSince after a whole revolution there and back", 0, x -> {
            x.turn(0, 20);
            x.turn(0, -20);
            return x.changedSince('a', 0);
        });
        on.gives("changedSince of the opposite position", 1, x -> {
            x.turn(0, -24);
            return x.changedSince('a', 0);
        });
    }

    private static void promise44GearsAddedLater() {
        Trials on = withOne();
        on.gives("changedSince after turning a gear added later", 0, x -> {
            x.turn(2, 5);
            return x.changedSince('a', 0);
        });
        on.gives("changedSince after turning all", 2, x -> {
            x.turn(0, 1);
            x.turn(1, 1);
            x.turn(2, 1);
            return x.changedSince('a', 0);
        });
    }

    // ---- promises 45 and 46 ----

    private static void promise45NoGears() {
        withNothing().noMean("meanTeeth()", x -> (long) x.meanTeeth());
        Trials undone = new Trials(CHECK, "the only gear undone", x -> {
            x.addGear(8);
            x.undo();
        });
        undone.noMean("meanTeeth()", x -> (long) x.meanTeeth());
    }

    private static void promise45LeastAndMost() {
        CHECK.exactly("meanTeeth() of 8", GearsTest.withGears(8).meanTeeth(), 8.0);
        CHECK.exactly("meanTeeth() of 60", GearsTest.withGears(60).meanTeeth(), 60.0);
        CHECK.exactly("meanTeeth() of 8 and 9", GearsTest.withGears(8, 9).meanTeeth(), 8.5);
        CHECK.exactly("meanTeeth() of three", GearsTest.withGears(8, 8, 9).meanTeeth(), 25.0 / 3.0);
        CHECK.exactly("meanTeeth() of seven", GearsTest.withGears(8, 8, 8, 8, 8, 8, 60).meanTeeth(), 108.0 / 7.0);
        GearObservatory ten = GearsTest.withGears(60, 60, 60, 60, 60, 60, 60, 60, 60, 59);
        CHECK.exactly("meanTeeth() of ten", ten.meanTeeth(), 59.9);
    }

    /** Wheels at 0, 1200, 2400 and at 0, 900, 1800, 2700, stars 1 at 600 and 2 at 2405. */
    private static void wheelsAndStars(GearObservatory x) {
        x.addGear(36);
        x.addWheel(0, 3);
        x.addWheel(0, 4);
        x.addStar(0, 0);
        x.addStar(600, 0);
        x.addStar(2405, 0);
        x.removeStar(0);
    }

    private static void aligned(Looks.Maker maker, int tolerance, float due) {
        CHECK.exactly("alignedFraction(" + tolerance + ")", Looks.made(maker).alignedFraction(tolerance), due);
    }

    private static void promise46ToleranceFrom0To1800() {
        Trials on = new Trials(CHECK, "wheels and stars", CatalogueBoundariesTest::wheelsAndStars);
        for (int tolerance : new int[] {-1, 1801, 3600, LEAST, MOST}) {
            on.badArgument("alignedFraction(" + tolerance + ")", x -> (long) x.alignedFraction(tolerance));
            withNothing().badArgument("alignedFraction(" + tolerance + ")", x -> (long) x.alignedFraction(tolerance));
        }
        on.asks("alignedFraction(0)", 0, x -> (long) (10 * x.alignedFraction(0)));
        on.asks("alignedFraction(1800)", 10, x -> (long) (10 * x.alignedFraction(1800)));
    }

    private static void promise46NoWheels() {
        withNothing().noMean("alignedFraction(0)", x -> (long) x.alignedFraction(0));
        withNothing().noMean("alignedFraction(1800)", x -> (long) x.alignedFraction(1800));
        Trials stars = new Trials(CHECK, "a gear and a star", x -> {
            x.addGear(8);
            x.addStar(0, 0);
        });
        stars.noMean("alignedFraction(1800)", x -> (long) x.alignedFraction(1800));
    }

    private static void promise46NoStars() {
        aligned(x -> {
            x.addGear(8);
            x.addWheel(0, 3);
        }, 1800, 0.0f);
        aligned(x -> {
            x.addGear(8);
            x.addWheel(0, 3);
            x.addStar(0, 0);
            x.removeStar(0);
        }, 1800, 0.0f);
    }

    private static void promise46AtMostATolerance() {
        aligned(CatalogueBoundariesTest::wheelsAndStars, 4, 0.0f);
        aligned(CatalogueBoundariesTest::wheelsAndStars, 5, 0.5f);
        aligned(CatalogueBoundariesTest::wheelsAndStars, 294, 0.5f);
        aligned(CatalogueBoundariesTest::wheelsAndStars, 295, 1.0f);
        aligned(x -> {
            x.addGear(8);
            x.addWheel(0, 3);
            x.addStar(2400, 0);
        }, 0, 1.0f);
        aligned(x -> {
            x.addGear(8);
            x.addWheel(0, 3);
            x.addStar(3599, 0);
        }, 0, 0.0f);
        aligned(x -> {
            x.addGear(8);
            x.addWheel(0, 3);
            x.addStar(3599, 0);
        }, 1, 1.0f);
    }

    private static void promise46AtLeastOneStar() {
        Looks.Maker oneOfThree = x -> {
            wheelsAndStars(x);
            x.addWheel(0, 12);
            x.addStar(900, 0);
        };
        aligned(oneOfThree, 0, 2.0f / 3.0f);
        aligned(x -> {
            oneOfThree.make(x);
            x.removeStar(1);
            x.removeStar(3);
        }, 5, 2.0f / 3.0f);
        aligned(x -> {
            oneOfThree.make(x);
            x.addWheel(0, 5);
        }, 0, 0.5f);
        aligned(x -> {
            x.addGear(60);
            x.addWheel(0, 12);
            x.addWheel(0, 3);
            x.addWheel(0, 4);
            x.addStar(300, 0);
        }, 0, 1.0f / 3.0f);
    }

    // ---- promises 47 to 49 ----

    private static void written(GearObservatory x, int gear, String due) {
        CHECK.same("writeGear(" + gear + ") of " + due, x.writeGear(gear), due.length());
        String got = Checks.outputOf(x, due.length());
        CHECK.yes("the output is " + got + ", due is " + due, got.equals(due));
        CHECK.noIndex("outputCharacter behind " + due, () -> x.outputCharacter(due.length()));
    }

    private static void promise47NoSuchGear() {
        Trials on = new Trials(CHECK, "an output", x -> {
            x.addGear(20);
            x.addGear(30);
            x.mesh(0, 1, 2);
            x.turn(0, -1);
            x.writeGear(1);
        });
        for (int gear : new int[] {-1, 2, 10, LEAST, MOST}) {
            on.noIndex("writeGear(" + gear + ")", x -> x.writeGear(gear));
        }
        withNothing().noIndex("writeGear(0)", x -> x.writeGear(0));
    }

    private static void promise47NoMesh() {
        written(GearsTest.withGears(8), 0, "8@0");
        written(GearsTest.withGears(8, 60), 1, "60@0");
        GearObservatory parted = GearsTest.withGears(8, 60);
        parted.mesh(0, 1, 0);
        parted.part(0, 1);
        written(parted, 0, "8@0");
    }

    private static void promise47AscendingOrder() {
        GearObservatory x = new GearObservatory();
        GearBoundariesTest.tenGears(x);
        int[] order = {7, 2, 9, 0, 5, 1, 8, 3, 6};
        for (int gear : order) {
            x.mesh(gear, 4, gear % 6);
        }
        written(x, 4, "12@0-0/0-1/0-2/0-3/0-5/0-6/0-7/0-8/0-9/0");
        x.turn(4, -5);
        written(x, 4, "12@-5-0/0-1/1-2/2-3/3-5/5-6/0-7/1-8/2-9/3");
        written(x, 9, "17@2-4/3");
        written(x, 5, "13@0-4/5");
        x.part(4, 0);
        x.part(4, 9);
        written(x, 4, "12@-5-1/1-2/2-3/3-5/5-6/0-7/1-8/2");
    }

    private static void promise47PositionsOfEachLength() {
        int[] positions = {0, 1, 9, 10, 11, 99, 100, 101, 109, 110, 990, 999, 1000, 1001, 9900, 10000};
        for (int position : positions) {
            written(turnedTo(position), 0, "8@" + position);
            if (position > 0) {
                written(turnedTo(-position), 0, "8@-" + position);
            }
        }
    }

    private static GearObservatory turnedTo(int position) {
        GearObservatory x = GearsTest.withGears(8);
        int left = position;
        while (left != 0) {
            int teeth = Math.max(-99, Math.min(99, left));
            x.turn(0, teeth);
            left -= teeth;
        }
        return x;
    }

    private static void promise47TheLongestOutput() {
        GearObservatory x = new GearObservatory();
        GearBoundariesTest.tenGears(x);
        for (int gear = 0; gear < 9; gear++) {
            x.mesh(9, gear, 5);
        }
        // The turns leave as many of an object's 512 calls as the output has characters, and two.
        for (int i = 0; i < 445; i++) {
            x.turn(9, -99);
        }
        written(x, 9, "17@-44055-0/5-1/5-2/5-3/5-4/5-5/5-6/5-7/5-8/5");
    }

    private static void promise47ReplacesThePreviousOne() {
        GearObservatory x = GearsTest.withGears(20, 30);
        x.mesh(0, 1, 5);
        x.turn(0, -99);
        written(x, 0, "20@-99-1/5");
        x.part(0, 1);
        written(x, 0, "20@-99");
        x.addGear(8);
        written(x, 2, "8@0");
        written(x, 1, "30@94");
        written(x, 1, "30@94");
    }

    private static void promise48EmptyAtFirst() {
        Trials on = withNothing();
        for (int index : new int[] {0, -1, 1, LEAST, MOST}) {
            on.noIndex("outputCharacter(" + index + ")", x -> x.outputCharacter(index));
        }
        Trials unwritten = new Trials(CHECK, "nothing written", x -> x.addGear(20));
        unwritten.noIndex("outputCharacter(0)", x -> x.outputCharacter(0));
        Trials refused = new Trials(CHECK, "a refused output", x -> Trials.quietly(x, y -> y.writeGear(0)));
        refused.noIndex("outputCharacter(0)", x -> x.outputCharacter(0));
    }

    private static void promise48NoSuchCharacter() {
        Trials on = new Trials(CHECK, "the output 20@-7", x -> {
            x.addGear(20);
            x.turn(0, -7);
            x.writeGear(0);
        });
        for (int index : new int[] {-1, 5, 6, 60, LEAST, MOST}) {
            on.noIndex("outputCharacter(" + index + ")", x -> x.outputCharacter(index));
        }
        String due = "20@-7";
        for (int index = 0; index < due.length(); index++) {
            int one = index;
            on.asks("outputCharacter(" + index + ")", due.charAt(index), x -> x.outputCharacter(one));
        }
        on.gives("outputCharacter(4) after more turns: it stays as written", '7', x -> {
            x.turn(0, -2);
            return x.outputCharacter(4);
        });
    }

    private static void promise49NothingAndEverything() {
        withNothing().asks("isConsistent()", 1, x -> x.isConsistent() ? 1 : 0);
        new Trials(CHECK, "one gear", x -> x.addGear(8)).asks("isConsistent()", 1, x -> x.isConsistent() ? 1 : 0);
        new Trials(CHECK, "single gears", GearBoundariesTest::tenGears)
                .asks("isConsistent()", 1, x -> x.isConsistent() ? 1 : 0);
        for (int slack = 0; slack <= 5; slack++) {
            int most = slack;
            Trials ten = new Trials(CHECK, "a chain with slack " + slack, x -> {
                GearBoundariesTest.chainOfTen(x, most);
                x.turn(3, -17);
                x.turn(6, 4);
                x.writeGear(5);
            });
            ten.asks("isConsistent()", 1, x -> x.isConsistent() ? 1 : 0);
            ten.gives("isConsistent() after part", 1, x -> {
                x.part(5, 6);
                return x.isConsistent() ? 1 : 0;
            });
        }
    }
}
