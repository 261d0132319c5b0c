/** Promises 50 to 57: input, commands, undo and saved state. */
public final class CommandsTest {
    private static final Checks CHECK = new Checks("CommandsTest");

    public static void main(String[] args) {
        promise50Feed();
        promise51EachCommand();
        promise51Numbers();
        promise51AllOrNone();
        promise51EachCommandFails();
        promise51MostCommands();
        promises51And52Malformed();
        promise52KeptLast();
        promise53KeptLast();
        promise54And55Undo();
        promise54UndoOfEachChange();
        promise54UndoOfTheFirstChange();
        promise54UndoRightBehindOtherChanges();
        promise54FailedCallsKeepTheHistory();
        promise54WhatIsNoChange();
        promise54UndoMakesRoomForNewChanges();
        promises56And57Save();
        promise57RestoreOfEverything();
        promise57RestoreOverOtherThings();
        promise57RestoreOfSixEntries();
        CHECK.end();
    }

    private static void promise50Feed() {
        GearObservatory x = new GearObservatory();
        for (int i = 1; i <= 60; i++) {
            CHECK.same("feed " + i, x.feed((char) (i * 1093)), i);
        }
        CHECK.badState("feed beyond sixty", () -> x.feed('a'));
        CHECK.badArgument("execute of sixty odd signs", x::execute);
        CHECK.same("feed after execute", x.feed('\uffff'), 1);
        CHECK.badArgument("execute of the greatest sign", x::execute);
        CHECK.same("errorPosition() of the greatest sign", x.errorPosition(), 0);
        CHECK.same("feed of sign 0", x.feed('\0'), 1);
    }

    private static void promise51EachCommand() {
        GearObservatory x = new GearObservatory();
        CHECK.same("gear", Checks.execute(x, "gear 8"), 1);
        CHECK.same("gear twice", Checks.execute(x, "gear 60;gear 12"), 2);
        CHECK.same("teeth(1)", x.teeth(1), 60);
        CHECK.same("teeth(2)", x.teeth(2), 12);
        CHECK.same("mesh", Checks.execute(x, "mesh 1-0/3"), 1);
        CHECK.same("slack(0, 1)", x.slack(0, 1), 3);
        CHECK.same("turn", Checks.execute(x, "turn 1-7;turn 2+99;turn 2-9"), 3);
        CHECK.same("position(0)", x.position(0), 4);
        CHECK.same("position(1)", x.position(1), -7);
        CHECK.same("position(2)", x.position(2), 90);
        CHECK.same("wheel", Checks.execute(x, "wheel 2*12;wheel 0*3"), 2);
        CHECK.same("gearOf(0)", x.gearOf(0), 2);
        CHECK.same("gearOf(1)", x.gearOf(1), 0);
        CHECK.same("spokeDirection(0, 11)", x.spokeDirection(0, 11), (3600 * 6 / 12 + 3300) % 3600);
        CHECK.same("note", Checks.execute(x, "note a0;note z9"), 2);
        CHECK.yes("isCatalogued('a', 0)", x.isCatalogued('a', 0));
        CHECK.yes("isCatalogued('z', 9)", x.isCatalogued('z', 9));
        CHECK.same("entryPosition('z', 9, 2)", x.entryPosition('z', 9, 2), 90);
        x.addStar(10, 5);
        CHECK.same("hour", Checks.execute(x, "hour 3"), 1);
        CHECK.same("direction(0)", x.direction(0), 25);
        CHECK.same("passHours(1)", x.passHours(1), 4);
        CHECK.same("all in one", Checks.execute(x, "gear 9;mesh 3-2/5;turn 3+2;wheel 3*4;note b1;hour 99"), 6);
        CHECK.same("position(2) after all in one", x.position(2), 88);
        CHECK.same("slack(3, 2) after all in one", x.slack(3, 2), 5);
    }

    private static void promise51Numbers() {
        GearObservatory x = new GearObservatory();
        CHECK.same("a leading 0", Checks.execute(x, "gear 08;gear 09;gear 10;hour 01;hour 1"), 5);
        CHECK.same("teeth(0)", x.teeth(0), 8);
        CHECK.same("turn by 01 and 5", Checks.execute(x, "turn 0+01;turn 0+5;turn 1-08"), 3);
        CHECK.same("position(0)", x.position(0), 6);
        CHECK.same("position(1)", x.position(1), -8);
    }

    private static void promise51AllOrNone() {
        GearObservatory x = new GearObservatory();
        x.addGear(20);
        x.addStar(5, 1);
        int changes = x.undoCount();
        Checks.feed(x, "gear 30;mesh 0-1/0;turn 0+5;hour 2;note a1;gear 7");
        CHECK.thrown("execute with a failing command", UnsupportedOperationException.class, x::execute);
        CHECK.same("failedCommand()", x.failedCommand(), 5);
        CHECK.same("gearCount() after it", x.gearCount(), 1);
        CHECK.same("meshCount() after it", x.meshCount(), 0);
        CHECK.same("position(0) after it", x.position(0), 0);
        CHECK.same("turnedTeeth() after it", x.turnedTeeth(), 0);
        CHECK.same("direction(0) after it", x.direction(0), 5);
        CHECK.no("isCatalogued('a', 1) after it", x.isCatalogued('a', 1));
        CHECK.same("undoCount() after it", x.undoCount(), changes);
        CHECK.noElement("errorPosition() after it", x::errorPosition);
        CHECK.same("feed after it: the buffer is empty", x.feed('g'), 1);
        Checks.feed(x, "ear 30;turn 1-4");
        CHECK.same("execute of two commands", x.execute(), 2);
        CHECK.same("feed after it: the buffer is empty", x.feed('h'), 1);
        CHECK.same("undoCount(): a text is one change", x.undoCount(), changes + 1);
        CHECK.same("undo of a text", x.undo(), changes);
        CHECK.same("gearCount() after undo of a text", x.gearCount(), 1);
        CHECK.same("passHours(1): hours were taken back", x.passHours(1), 1);
    }

    private static void fails(String text, int command) {
        GearObservatory x = new GearObservatory();
        Checks.execute(x, "gear 8;gear 9;gear 10;mesh 0-1/1");
        Checks.feed(x, text);
        CHECK.thrown("execute of " + text, UnsupportedOperationException.class, x::execute);
        CHECK.same("failedCommand() of " + text, x.failedCommand(), command);
        CHECK.same("undoCount() after " + text, x.undoCount(), 1);
    }

    private static void promise51EachCommandFails() {
        fails("gear 7", 0);
        fails("gear 61;gear 8", 0);
        fails("gear 8;gear 0", 1);
        fails("mesh 0-3/0", 0);
        fails("mesh 3-0/0", 0);
        fails("mesh 0-2/6", 0);
        fails("mesh 0-1/0", 0);
        fails("mesh 2-2/0", 0);
        fails("turn 3+1", 0);
        fails("turn 0+0", 0);
        fails("turn 0-00", 0);
        fails("wheel 3*3", 0);
        fails("wheel 0*2", 0);
        fails("wheel 0*13", 0);
        fails("wheel 0*3;wheel 0*3;wheel 0*3;wheel 0*3;wheel 0*3", 4);
        fails("hour 0", 0);
        fails("hour 1;hour 00;hour 0", 1);
        GearObservatory noted = new GearObservatory();
        Checks.execute(noted, "note a0;note a1;note a2;note a3;note a4");
        Checks.feed(noted, "note a0;note a5;note a1;note a6");
        CHECK.thrown("execute of a seventh entry", UnsupportedOperationException.class, noted::execute);
        CHECK.same("failedCommand() of a seventh entry", noted.failedCommand(), 3);
        CHECK.no("isCatalogued('a', 5) after a seventh entry", noted.isCatalogued('a', 5));
        GearObservatory full = new GearObservatory();
        Checks.execute(full, "gear 8;gear 8;gear 8;gear 8;gear 8;gear 8;gear 8;gear 8");
        Checks.feed(full, "gear 8;gear 8;gear 8");
        CHECK.thrown("execute of an eleventh gear", UnsupportedOperationException.class, full::execute);
        CHECK.same("failedCommand() of an eleventh gear", full.failedCommand(), 2);
        CHECK.same("gearCount() after an eleventh gear", full.gearCount(), 8);
    }

    private static void promise51MostCommands() {
        GearObservatory x = new GearObservatory();
        String text = "hour 1;hour 1;hour 1;hour 1;hour 1;hour 1;hour 1;hour 1";
        CHECK.same("execute of eight commands", Checks.execute(x, text), 8);
        CHECK.same("passHours(1)", x.passHours(1), 9);
        CHECK.same("undoCount()", x.undoCount(), 2);
        String sixty = "hour 12;hour 12;hour 12;hour 12;hour 12;hour 1;hour 1;hour 1";
        CHECK.same("length of the longest text", sixty.length(), 60);
        CHECK.same("execute of the longest text", Checks.execute(x, sixty), 8);
        CHECK.same("passHours(1) after the longest text", x.passHours(1), 9 + 63 + 1);
    }

    private static void malformed(String text, int position) {
        GearObservatory x = new GearObservatory();
        x.addGear(20);
        Checks.feed(x, text);
        CHECK.badArgument("execute of '" + text + "'", x::execute);
        CHECK.same("errorPosition() of '" + text + "'", x.errorPosition(), position);
        CHECK.noElement("failedCommand() of '" + text + "'", x::failedCommand);
        CHECK.same("feed after '" + text + "'", x.feed('a'), 1);
        CHECK.same("undoCount() after '" + text + "'", x.undoCount(), 1);
        CHECK.same("gearCount() after '" + text + "'", x.gearCount(), 1);
    }

    private static void promises51And52Malformed() {
        CHECK.noElement("errorPosition() at first", () -> new GearObservatory().errorPosition());
        CHECK.noElement("failedCommand() at first", () -> new GearObservatory().failedCommand());
        malformed("", 0);
        malformed(" ", 0);
        malformed(";", 0);
        malformed("Gear 8", 0);
        malformed("\0gear 8", 0);
        malformed("\u0167ear 8", 0);
        String[] texts = {"gear 25", "mesh 0-1/5", "turn 9+99", "turn 9-99", "wheel 0*12", "note q7", "hour 12"};
        for (String text : texts) {
            prefixesOf(text);
            malformed(text + ";", text.length() + 1);
            malformed(text + ";;", text.length() + 1);
            malformed(text + " ", text.length());
            malformed(text + "1", text.length());
            malformed(text + ";" + text + "x", 2 * text.length() + 1);
            malformed(text + "; " + text, text.length() + 1);
            malformed(text + "g", text.length());
        }
        malformed("gear  8", 5);
        malformed("gear -8", 5);
        malformed("gear +8", 5);
        malformed("gear 8;turn 0", 13);
        malformed("mesh 10-1/0", 6);
        malformed("mesh 1-10/0", 8);
        malformed("mesh 0+1/0", 6);
        malformed("mesh 0-1-0", 8);
        malformed("turn 0*1", 6);
        malformed("turn 00+1", 6);
        malformed("turn 0+-1", 7);
        malformed("wheel 0+3", 7);
        malformed("note A1", 5);
        malformed("note `1", 5);
        malformed("note {1", 5);
        malformed("note a:", 6);
        malformed("note a/", 6);
        malformed("hour :", 5);
        malformed("hour /", 5);
        malformed("hour \u0661", 5);
        malformed("gear 8;gear 7;gear", 18);
        malformed("hour 1;hour 1;hour 1;hour 1;hour 1;hour 1;hour 1;hour 1;hour", 60);
        malformed("hour 1;hour 1;hour 1;hour 1;hour 1;hour 1;hour 1;hour 1;", 56);
        malformed("hour 11;hour 1;hour 1;hour 1;hour 1;hour 1;hour 1;hour 1;how", 59);
    }

    /** Every part of a command that ends too early, and every one that goes on wrongly. */
    private static void prefixesOf(String text) {
        for (int length = 0; length < text.length(); length++) {
            boolean whole = length == text.length() - 1 && Character.isDigit(text.charAt(length - 1));
            if (!whole) {
                malformed(text.substring(0, length), length);
                malformed(text.substring(0, length) + ";", length);
            }
            malformed(text.substring(0, length) + "~", length);
            if (length < text.indexOf(' ') + 1) {
                malformed(text.substring(0, length) + text.substring(text.indexOf(' ') + 1), length);
            }
            malformed(text.substring(0, length) + (char) (text.charAt(length) + 256), length);
        }
    }

    private static void promise52KeptLast() {
        GearObservatory x = new GearObservatory();
        Checks.feed(x, "gear");
        CHECK.badArgument("execute of gear", x::execute);
        Checks.execute(x, "gear 8");
        CHECK.same("errorPosition() after a well-formed text", x.errorPosition(), 4);
        Checks.feed(x, "gear 1");
        CHECK.thrown("execute of gear 1", UnsupportedOperationException.class, x::execute);
        CHECK.same("errorPosition() after a failed command", x.errorPosition(), 4);
        x.save();
        Checks.feed(x, "go");
        CHECK.badArgument("execute of go", x::execute);
        CHECK.same("errorPosition() of go", x.errorPosition(), 1);
        x.undo();
        x.restore();
        CHECK.same("errorPosition() after undo and restore", x.errorPosition(), 1);
        CHECK.same("failedCommand() after undo and restore", x.failedCommand(), 0);
    }

    private static void promise53KeptLast() {
        GearObservatory x = new GearObservatory();
        Checks.feed(x, "hour 1;hour 0");
        CHECK.thrown("execute of hour 0", UnsupportedOperationException.class, x::execute);
        CHECK.same("failedCommand()", x.failedCommand(), 1);
        Checks.execute(x, "hour 1");
        CHECK.same("failedCommand() after a text that did not fail", x.failedCommand(), 1);
        Checks.feed(x, "h");
        CHECK.badArgument("execute of h", x::execute);
        CHECK.same("failedCommand() after a malformed text", x.failedCommand(), 1);
        Checks.feed(x, "turn 0+1");
        CHECK.thrown("execute of turn 0+1", UnsupportedOperationException.class, x::execute);
        CHECK.same("failedCommand() of the next", x.failedCommand(), 0);
    }

    private static void promise54And55Undo() {
        GearObservatory x = new GearObservatory();
        CHECK.badState("undo of none", x::undo);
        for (int i = 1; i <= 10; i++) {
            x.passHours(1);
            CHECK.same("undoCount() after " + i, x.undoCount(), Math.min(i, 8));
        }
        for (int i = 7; i >= 0; i--) {
            CHECK.same("undo", x.undo(), i);
            CHECK.same("undoCount()", x.undoCount(), i);
        }
        CHECK.badState("undo of a ninth", x::undo);
        CHECK.same("passHours(1) after eight of ten are undone", x.passHours(1), 3);
        CHECK.same("undoCount() after it", x.undoCount(), 1);
        x.undo();
        CHECK.same("passHours(5) after undo", x.passHours(5), 7);
    }

    private static void promise54UndoOfEachChange() {
        GearObservatory x = GearsTest.withGears(20, 30);
        CHECK.same("undo of addGear", x.undo(), 1);
        CHECK.same("gearCount()", x.gearCount(), 1);
        x.addGear(36);
        CHECK.same("teeth(1) added anew", x.teeth(1), 36);
        x.mesh(0, 1, 3);
        x.undo();
        CHECK.no("doMesh after undo of mesh", x.doMesh(0, 1));
        x.mesh(0, 1, 2);
        x.turn(0, -1);
        x.part(0, 1);
        x.undo();
        CHECK.same("gap after undo of part", x.gap(0, 1), 1);
        CHECK.same("slack after undo of part", x.slack(0, 1), 2);
        x.undo();
        CHECK.same("gap after undo of turn", x.gap(0, 1), 0);
        CHECK.same("position after undo of turn", x.position(0), 0);
        x.addWheel(1, 3);
        x.undo();
        CHECK.same("wheelCount() after undo of addWheel", x.wheelCount(), 0);
        x.addStar(1, 2);
        x.undo();
        CHECK.same("starCount() after undo of addStar", x.starCount(), 0);
        CHECK.same("addStar after undo of addStar", x.addStar(3, 4), 0);
        x.removeStar(0);
        x.undo();
        CHECK.same("direction after undo of removeStar", x.direction(0), 3);
        CHECK.same("directionAfter after undo of removeStar", x.directionAfter(0, 1), 7);
        x.passHours(9);
        x.undo();
        CHECK.same("direction after undo of passHours", x.direction(0), 3);
        x.catalogue('a', 1);
        x.undo();
        CHECK.no("isCatalogued after undo of catalogue", x.isCatalogued('a', 1));
        x.catalogue('a', 1);
        x.turn(0, 5);
        x.catalogue('a', 1);
        x.undo();
        CHECK.same("entryPosition after undo of catalogue in place", x.entryPosition('a', 1, 0), 0);
        x.forget('a', 1);
        x.undo();
        CHECK.yes("isCatalogued after undo of forget", x.isCatalogued('a', 1));
        Checks.execute(x, "gear 9;hour 4");
        x.undo();
        CHECK.same("gearCount() after undo of execute", x.gearCount(), 2);
    }

    private static void promise54UndoOfTheFirstChange() {
        GearObservatory x = new GearObservatory();
        x.addGear(20);
        CHECK.same("undo of the first change", x.undo(), 0);
        CHECK.same("gearCount() after it", x.gearCount(), 0);
        Checks.execute(x, "gear 9;gear 10");
        CHECK.same("undo of the first text", x.undo(), 0);
        CHECK.same("gearCount() after it", x.gearCount(), 0);
    }

    private static void promise54UndoRightBehindOtherChanges() {
        String[] changes = {"addGear", "mesh", "part", "turn", "addWheel", "follow", "addStar", "removeStar",
            "passHours", "catalogue", "forget", "execute"};
        for (int change = 0; change < changes.length; change++) {
            GearObservatory x = GearsTest.withGears(20, 30, 40);
            x.mesh(0, 1, 3);
            x.addStar(70, 5);
            x.catalogue('a', 1);
            for (int before = 0; before < 10; before++) {
                x.turn(2, 1 + before);
            }
            if (change == 5) {
                x.addWheel(1, 3);
            }
            String due = summary(x);
            change(x, change);
            CHECK.yes(changes[change] + " changes something", !summary(x).equals(due));
            CHECK.same("undo of " + changes[change], x.undo(), 7);
            CHECK.yes("undo of " + changes[change] + " restores " + due, summary(x).equals(due));
        }
    }

    private static void change(GearObservatory x, int change) {
        switch (change) {
            case 0:
                x.addGear(50);
                break;
            case 1:
                x.mesh(1, 2, 0);
                break;
            case 2:
                x.part(0, 1);
                break;
            case 3:
                x.turn(0, 7);
                break;
            case 4:
                x.addWheel(0, 4);
                break;
            case 5:
                x.follow(0, 0);
                break;
            case 6:
                x.addStar(1, 1);
                break;
            case 7:
                x.removeStar(0);
                break;
            case 8:
                x.passHours(1);
                break;
            case 9:
                x.catalogue('a', 2);
                break;
            case 10:
                x.forget('a', 1);
                break;
            default:
                Checks.execute(x, "gear 8;gear 9;turn 0+3;hour 3");
        }
    }

    /** All that can be asked without an argument, and the gears, as one text. */
    private static String summary(GearObservatory x) {
        StringBuilder text = new StringBuilder();
        for (int gear = 0; gear < x.gearCount(); gear++) {
            text.append(Checks.outputOf(x, x.writeGear(gear))).append(' ');
        }
        text.append(x.meshCount()).append(' ').append(x.turnedTeeth()).append(' ').append(x.wheelCount());
        for (int place = 0; place < x.starCount(); place++) {
            text.append(' ').append(x.star(place)).append(':').append(x.direction(x.star(place)));
        }
        return text.append(x.isCatalogued('a', 1)).append(x.isCatalogued('a', 2)).toString();
    }

    private static void promise54FailedCallsKeepTheHistory() {
        for (int turns = 8; turns < 18; turns++) {
            GearObservatory x = GearsTest.withGears(60);
            for (int i = 0; i < turns; i++) {
                x.turn(0, 1);
            }
            CHECK.badArgument("turn(0, 0)", () -> x.turn(0, 0));
            Checks.feed(x, "turn 0+5;turn 0+0");
            CHECK.thrown("execute of turn 0+0", UnsupportedOperationException.class, x::execute);
            for (int i = 7; i >= 0; i--) {
                CHECK.same("undo after failed calls", x.undo(), i);
            }
            CHECK.same("position(0) after eight undone", x.position(0), turns - 8);
        }
    }

    private static void promise54WhatIsNoChange() {
        GearObservatory x = GearsTest.withGears(20);
        x.addStar(0, 0);
        x.feed('a');
        x.writeGear(0);
        x.save();
        x.isConsistent();
        x.trainCount();
        CHECK.same("undoCount() after calls that are no changes", x.undoCount(), 2);
        CHECK.same("feed after undo: the buffer stays", x.undo() + x.feed('b'), 1 + 2);
    }

    private static void promise54UndoMakesRoomForNewChanges() {
        GearObservatory x = GearsTest.withGears(60);
        for (int i = 0; i < 30; i++) {
            x.turn(0, 1);
        }
        for (int round = 0; round < 6; round++) {
            x.undo();
            x.undo();
            x.undo();
            x.turn(0, 2);
            x.turn(0, 2);
        }
        CHECK.same("undoCount() after six rounds", x.undoCount(), 2);
        CHECK.same("position(0) after six rounds", x.position(0), 26);
        x.undo();
        CHECK.same("position(0) after one more", x.position(0), 24);
        x.undo();
        CHECK.same("position(0) after the last", x.position(0), 22);
        CHECK.badState("undo after the last", x::undo);
    }

    private static void promises56And57Save() {
        GearObservatory x = new GearObservatory();
        CHECK.badState("restore of nothing", x::restore);
        CHECK.same("save() without gears", x.save(), 0);
        x.addGear(20);
        CHECK.same("restore() without gears", x.restore(), 0);
        CHECK.same("gearCount() after restore", x.gearCount(), 0);
        x.addGear(20);
        x.addGear(30);
        CHECK.same("save() of two gears", x.save(), 2);
        CHECK.same("undoCount() after save", x.undoCount(), 2);
        x.addGear(40);
        x.turn(0, 3);
        CHECK.same("restore() of two gears", x.restore(), 2);
        CHECK.same("undoCount() after restore", x.undoCount(), 0);
        CHECK.badState("undo after restore", x::undo);
        CHECK.same("position(0) after restore", x.position(0), 0);
        x.turn(0, 9);
        CHECK.same("undo of a change after restore", x.undo(), 0);
        x.turn(0, 9);
        x.restore();
        CHECK.same("position(0): what was saved stays saved", x.position(0), 0);
        x.addGear(50);
        x.undo();
        x.undoCount();
        CHECK.same("restore() after undo", x.restore(), 2);
    }

    private static void promise57RestoreOfEverything() {
        GearObservatory x = GearsTest.withGears(20, 30);
        x.mesh(0, 1, 4);
        x.turn(0, -3);
        x.addWheel(1, 5);
        x.addStar(100, 7);
        x.addStar(200, -7);
        x.removeStar(0);
        x.passHours(2);
        x.catalogue('s', 5);
        x.save();
        x.part(0, 1);
        x.turn(1, 6);
        x.addWheel(0, 3);
        x.addStar(300, 0);
        x.removeStar(1);
        x.passHours(3);
        x.forget('s', 5);
        x.catalogue('t', 6);
        x.restore();
        CHECK.same("gap", x.gap(0, 1), 3);
        CHECK.same("slack", x.slack(0, 1), 4);
        CHECK.same("position(0)", x.position(0), -3);
        CHECK.same("position(1)", x.position(1), 0);
        CHECK.same("turnedTeeth()", x.turnedTeeth(), 3);
        CHECK.same("wheelCount()", x.wheelCount(), 1);
        CHECK.same("starCount()", x.starCount(), 1);
        CHECK.same("star(0)", x.star(0), 1);
        CHECK.same("direction(1)", x.direction(1), 186);
        CHECK.yes("isCatalogued('s', 5)", x.isCatalogued('s', 5));
        CHECK.no("isCatalogued('t', 6)", x.isCatalogued('t', 6));
        CHECK.same("entryPosition", x.entryPosition('s', 5, 0), -3);
        CHECK.same("passHours(1)", x.passHours(1), 3);
        CHECK.same("addStar: the next id is restored", x.addStar(0, 0), 2);
    }

    private static void promise57RestoreOverOtherThings() {
        GearObservatory x = GearsTest.withGears(21);
        x.addWheel(0, 3);
        x.addStar(1, 2);
        x.save();
        x.undo();
        x.undo();
        x.undo();
        x.addGear(22);
        x.addGear(23);
        x.addWheel(1, 4);
        x.addStar(1, 3);
        x.restore();
        CHECK.same("teeth(0) restored over another gear", x.teeth(0), 21);
        CHECK.same("gearOf(0) restored over another wheel", x.gearOf(0), 0);
        CHECK.badArgument("spokes restored over another wheel", () -> x.spokeDirection(0, 3));
        CHECK.same("speed restored over another star", x.directionAfter(0, 1), 3);
    }

    private static void promise57RestoreOfSixEntries() {
        GearObservatory x = GearsTest.withGears(20);
        x.catalogue('a', 0);
        x.addGear(30);
        x.turn(1, 4);
        for (int i = 1; i < 6; i++) {
            x.turn(1, i);
            x.catalogue('a', i);
        }
        x.save();
        x.forget('a', 0);
        x.forget('a', 1);
        x.catalogue('b', 0);
        x.catalogue('b', 1);
        x.restore();
        int[] due = {0, 5, 7, 10, 14, 19};
        for (int i = 1; i < 6; i++) {
            CHECK.same("entryPosition('a', " + i + ", 1) restored", x.entryPosition('a', i, 1), due[i]);
        }
        CHECK.noElement("entryPosition('a', 0, 1) restored", () -> x.entryPosition('a', 0, 1));
        CHECK.same("forget: six entries were restored", x.forget('a', 5), 5);
    }
}
