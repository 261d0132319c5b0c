/** The boundary cases of promises 50 to 57: one test for each sentence that names one. */
public final class CommandBoundariesTest {
    private static final Checks CHECK = new Checks("CommandBoundariesTest");
    private static final String SIXTY = "hour 12;hour 12;hour 12;hour 12;hour 12;hour 1;hour 1;hour 1";

    /** What change(..) does, by number: each kind of change that the document lists, and its odd cases. */
    private static final String[] CHANGES = {"addGear", "mesh", "part", "turn", "addWheel", "addStar", "removeStar",
        "passHours", "catalogue", "catalogue in place", "forget", "follow", "follow by no teeth", "execute"};

    public static void main(String[] args) {
        promise50SixtyCharacters();
        promise50AnyCharacter();
        promise50EmptyAfterEveryExecute();
        promise51TheBufferIsEmpty();
        promise51NumbersOfOneOrTwoDigits();
        promise51EachCommandAtItsEdges();
        promise51EachCommandBeyondItsEdges();
        promise51CommandsOnAFullObject();
        promise51NoneOfTheCommands();
        promise51TextsOfEightCommands();
        promise51TheFormDecidesFirst();
        promise51OneChange();
        promise52NoneAndEveryPosition();
        promise52DigitsLettersAndSigns();
        promise52KeywordsLetterByLetter();
        promise52Separators();
        promise52TooEarlyOrTooLong();
        promise52KeptLast();
        promise53NoneAndEveryCommand();
        promise53KeptLast();
        promise54NoneToUndo();
        promise54EachChange();
        promise54EachChangeBehindEightOthers();
        promise54LatestEight();
        promise54RefusedCallsAreNoChanges();
        promise54UndoIsNoChange();
        promise54TheIdThatIsGivenNext();
        promises54To57TextsAreNotAffected();
        promise55NoneToEight();
        promise56NoneAndTenGears();
        promise56InPlaceOfWhatWasSaved();
        promise56SaveIsNoChange();
        promise57NothingSaved();
        promise57StaysSaved();
        promise57NoChangeCanBeUndone();
        promise57EachChange();
        promise57OverOtherThings();
        CHECK.end();
    }

    // ---- states ----

    /** Something of everything, with gear 4 alone, and room for one more of everything. */
    private static void someOfAll(GearObservatory x) {
        x.addGear(20);
        x.addGear(30);
        x.addGear(36);
        x.addGear(8);
        x.mesh(0, 1, 3);
        x.mesh(1, 2, 2);
        x.turn(0, -2);
        x.addWheel(2, 3);
        x.addStar(5, 5);
        x.addStar(100, -50);
        x.addStar(2400, 0);
        x.removeStar(0);
        x.passHours(3);
        x.catalogue('a', 0);
        x.catalogue('a', 1);
        x.turn(2, 1);
        x.save();
        x.turn(3, 7);
        x.writeGear(1);
    }

    private static void full(GearObservatory x) {
        GearBoundariesTest.tenGears(x);
        for (int gear = 0; gear < 8; gear++) {
            x.mesh(gear, gear + 1, 5);
            x.addStar(gear, gear);
        }
        for (int wheel = 0; wheel < 4; wheel++) {
            x.addWheel(wheel, 3 + wheel);
        }
        for (int entry = 0; entry < 6; entry++) {
            x.turn(entry, 9);
            x.catalogue('a', entry);
        }
    }

    private static void change(GearObservatory x, int change) {
        switch (change) {
            case 0:
                x.addGear(60);
                break;
            case 1:
                x.mesh(0, 3, 5);
                break;
            case 2:
                x.part(1, 0);
                break;
            case 3:
                x.turn(0, -99);
                break;
            case 4:
                x.addWheel(3, 12);
                break;
            case 5:
                x.addStar(3599, 50);
                break;
            case 6:
                x.removeStar(1);
                break;
            case 7:
                x.passHours(99);
                break;
            case 8:
                x.catalogue('z', 9);
                break;
            case 9:
                x.catalogue('a', 0);
                break;
            case 10:
                x.forget('a', 0);
                break;
            case 11:
                x.follow(0, 1);
                break;
            case 12:
                x.follow(0, 2);
                x.follow(0, 2);
                break;
            default:
                Checks.execute(x, "gear 9;turn 4-7;hour 3;note a1;wheel 4*5;mesh 4-0/1");
        }
    }

    // ---- helpers ----

    private static void feedAndExecute(GearObservatory x, String text) {
        Checks.feed(x, text);
        Trials.quietly(x, y -> y.execute());
    }

    private static void same(String what, String got, String due) {
        CHECK.yes(what + ":\n" + got + "\ndue is\n" + due, got.equals(due));
    }

    /** The text does the same as the calls. */
    private static void does(String text, int commands, Looks.Maker calls) {
        GearObservatory x = Looks.made(CommandBoundariesTest::someOfAll);
        CHECK.same("execute of '" + text + "'", Checks.execute(x, text), commands);
        CHECK.same("feed after '" + text + "'", x.feed('a'), 1);
        CHECK.noElement("errorPosition() after '" + text + "'", x::errorPosition);
        CHECK.noElement("failedCommand() after '" + text + "'", x::failedCommand);
        String got = Looks.atThings(y -> {
            someOfAll(y);
            feedAndExecute(y, text);
        });
        String due = Looks.atThings(y -> {
            someOfAll(y);
            calls.make(y);
        });
        same("what '" + text + "' does", got, due);
    }

    private static void malformed(String text, int position) {
        malformed(CommandBoundariesTest::someOfAll, text, position);
    }

    private static void malformed(Looks.Maker maker, String text, int position) {
        GearObservatory x = Looks.made(maker);
        Checks.feed(x, text);
        CHECK.badArgument("execute of '" + text + "'", x::execute);
        CHECK.same("errorPosition() of '" + text + "'", x.errorPosition(), position);
        CHECK.noElement("failedCommand() of '" + text + "'", x::failedCommand);
        CHECK.same("feed after '" + text + "'", x.feed('a'), 1);
        changesNothing(maker, text);
    }

    private static void fails(String text, int command) {
        fails(CommandBoundariesTest::someOfAll, text, command);
    }

    private static void fails(Looks.Maker maker, String text, int command) {
        GearObservatory x = Looks.made(maker);
        Checks.feed(x, text);
        CHECK.thrown("execute of '" + text + "'", UnsupportedOperationException.class, x::execute);
        CHECK.same("failedCommand() of '" + text + "'", x.failedCommand(), command);
        CHECK.noElement("errorPosition() of '" + text + "'", x::errorPosition);
        CHECK.same("feed after '" + text + "'", x.feed('a'), 1);
        changesNothing(maker, text);
    }

    private static void changesNothing(Looks.Maker maker, String text) {
        String after = Looks.atChanges(y -> {
            maker.make(y);
            feedAndExecute(y, text);
        });
        same("what '" + text + "' leaves", after, Looks.atChanges(maker));
    }

    // ---- promise 50 ----

    private static void promise50SixtyCharacters() {
        GearObservatory x = new GearObservatory();
        for (int length = 1; length <= 60; length++) {
            CHECK.same("feed " + length, x.feed('h'), length);
        }
        CHECK.same("length of a full text", SIXTY.length(), 60);
        Trials on = new Trials(CHECK, "sixty characters", y -> {
            someOfAll(y);
            Checks.feed(y, SIXTY);
        });
        for (char sign : new char[] {'1', ';', 0, 255, 65535}) {
            on.badState("feed(" + (int) sign + ")", y -> y.feed(sign));
        }
        on.gives("execute()", 8, y -> y.execute());
        on.gives("execute() after a refused character", 8, y -> {
            Trials.quietly(y, z -> z.feed(';'));
            return y.execute();
        });
        Trials nearly = new Trials(CHECK, "59 characters", y -> Checks.feed(y, SIXTY.substring(0, 59)));
        nearly.gives("feed of the sixtieth", 60, y -> y.feed('1'));
        nearly.gives("execute() with the sixtieth", 8, y -> {
            y.feed('1');
            return y.execute();
        });
    }

    private static void promise50AnyCharacter() {
        Trials on = new Trials(CHECK, "nothing", x -> { });
        for (int sign : new int[] {0, 1, 9, 10, 31, 32, 59, 126, 127, 128, 255, 256, 0xd800, 0xffff}) {
            on.gives("feed(" + sign + ")", 1, x -> x.feed((char) sign));
            malformed("" + (char) sign, 0);
            malformed("gear 8" + (char) sign, sign == ';' ? 7 : 6);
        }
    }

    private static void promise50EmptyAfterEveryExecute() {
        String[] texts = {"", "gear 8", "gear 7", "gear", SIXTY, SIXTY.replace('1', '0'), SIXTY.replace(';', ',')};
        for (String text : texts) {
            Trials on = new Trials(CHECK, "the executed text '" + text + "'", x -> {
                someOfAll(x);
                feedAndExecute(x, text);
            });
            on.gives("feed('g')", 1, x -> x.feed('g'));
            on.gives("execute() of the next text", 1, x -> Checks.execute(x, "gear 9"));
            on.gives("errorPosition() of nothing", 0, x -> {
                Trials.quietly(x, y -> y.execute());
                return x.errorPosition();
            });
        }
    }

    // ---- promise 51 ----

    private static void promise51TheBufferIsEmpty() {
        malformed("", 0);
        malformed(x -> { }, "", 0);
        malformed(CommandBoundariesTest::full, "", 0);
    }

    private static void promise51NumbersOfOneOrTwoDigits() {
        malformed("gear ", 5);
        malformed("gear ;", 5);
        does("gear 8", 1, x -> x.addGear(8));
        does("gear 08", 1, x -> x.addGear(8));
        does("gear 60", 1, x -> x.addGear(60));
        malformed("gear 008", 7);
        malformed("gear 600", 7);
        malformed("turn 0+", 7);
        does("turn 0+9", 1, x -> x.turn(0, 9));
        does("turn 0+09", 1, x -> x.turn(0, 9));
        malformed("turn 0+009", 9);
        malformed("turn 0-", 7);
        does("turn 0-9", 1, x -> x.turn(0, -9));
        does("turn 0-09", 1, x -> x.turn(0, -9));
        malformed("turn 0-009", 9);
        malformed("wheel 0*", 8);
        does("wheel 0*3", 1, x -> x.addWheel(0, 3));
        does("wheel 0*03", 1, x -> x.addWheel(0, 3));
        malformed("wheel 0*003", 10);
        malformed("hour ", 5);
        does("hour 5", 1, x -> x.passHours(5));
        does("hour 05", 1, x -> x.passHours(5));
        malformed("hour 005", 7);
    }

    private static void promise51EachCommandAtItsEdges() {
        does("gear 9;gear 59", 2, x -> {
            x.addGear(9);
            x.addGear(59);
        });
        does("mesh 0-3/0", 1, x -> x.mesh(0, 3, 0));
        does("mesh 3-2/5", 1, x -> x.mesh(3, 2, 5));
        does("turn 3+1;turn 3+99", 2, x -> {
            x.turn(3, 1);
            x.turn(3, 99);
        });
        does("turn 0-1;turn 0-99", 2, x -> {
            x.turn(0, -1);
            x.turn(0, -99);
        });
        does("turn 1+10;turn 1-10", 2, x -> {
            x.turn(1, 10);
            x.turn(1, -10);
        });
        does("wheel 0*3;wheel 3*12", 2, x -> {
            x.addWheel(0, 3);
            x.addWheel(3, 12);
        });
        does("note a0;note z9;note a9;note z0", 4, x -> {
            x.catalogue('a', 0);
            x.catalogue('z', 9);
            x.catalogue('a', 9);
            x.catalogue('z', 0);
        });
        does("hour 1;hour 99", 2, x -> {
            x.passHours(1);
            x.passHours(99);
        });
    }

    private static void promise51EachCommandBeyondItsEdges() {
        String[] texts = {"gear 7", "gear 61", "gear 0", "gear 00", "gear 99", "mesh 0-4/0", "mesh 4-0/0", "mesh 9-9/9",
            "mesh 0-3/6", "mesh 0-3/9", "mesh 0-1/0", "mesh 0-2/0", "mesh 3-3/0", "turn 4+1", "turn 9-1", "turn 0+0",
            "turn 0-0", "turn 0+00", "turn 0-00", "wheel 4*3", "wheel 9*3", "wheel 0*2", "wheel 0*13", "wheel 0*0",
            "wheel 0*99", "hour 0", "hour 00"};
        for (String text : texts) {
            fails(text, 0);
            fails("gear 8;" + text.replace('4', '5'), 1);
            fails(text + ";gear 7", 0);
            fails("hour 1;turn 1-3;" + text + ";hour 1", 2);
        }
    }

    private static void promise51CommandsOnAFullObject() {
        String[] refused = {"gear 8", "wheel 0*3", "note b0", "mesh 0-8/0"};
        for (String text : refused) {
            fails(CommandBoundariesTest::full, text, 0);
            fails(CommandBoundariesTest::full, "turn 9+1;hour 1;note a5;" + text, 3);
        }
        GearObservatory x = Looks.made(CommandBoundariesTest::full);
        CHECK.same("a text on a full object", Checks.execute(x, "mesh 9-8/5;note a0;turn 9-99;hour 99"), 4);
        CHECK.same("meshCount() after it", x.meshCount(), 9);
        CHECK.same("trainSize(0) after it", x.trainSize(0), 10);
        CHECK.same("undo of it", x.undo(), 7);
        CHECK.same("meshCount() after undo of it", x.meshCount(), 8);
        GearObservatory nine = new GearObservatory();
        Checks.execute(nine, "gear 8;gear 8;gear 8;gear 8;gear 8;gear 8;gear 8;gear 8");
        Checks.feed(nine, "gear 8;gear 8;gear 8");
        CHECK.thrown("the eleventh gear", UnsupportedOperationException.class, nine::execute);
        CHECK.same("failedCommand() of the eleventh gear", nine.failedCommand(), 2);
        CHECK.same("gearCount() without it", nine.gearCount(), 8);
        CHECK.same("the tenth gear", Checks.execute(nine, "gear 8;gear 8"), 2);
        CHECK.same("turn of the tenth gear", Checks.execute(nine, "mesh 9-0/0;turn 9+1"), 2);
        CHECK.same("position(0) after it", nine.position(0), -1);
    }

    private static void promise51NoneOfTheCommands() {
        fails("gear 9;mesh 4-0/2;turn 4-9;wheel 4*5;note c5;hour 8;gear 7", 6);
        fails("gear 7;mesh 0-3/2;turn 0-9;wheel 0*5;note c5;hour 8;gear 9", 0);
        fails("note a0;note a1;note b0;note b1;note b2;note b3;note b4", 6);
        fails("wheel 0*3;wheel 1*3;wheel 2*3;wheel 3*3", 3);
        // A command may need what an earlier one of the same text has made, or fail by it.
        does("gear 9;turn 4+5", 2, x -> {
            x.addGear(9);
            x.turn(4, 5);
        });
        fails("turn 4+5;gear 9", 0);
        fails("mesh 0-3/1;mesh 3-2/1", 1);
    }

    private static void promise51TextsOfEightCommands() {
        does(SIXTY, 8, x -> {
            for (int i = 0; i < 5; i++) {
                x.passHours(12);
            }
            for (int i = 0; i < 3; i++) {
                x.passHours(1);
            }
        });
        fails("hour 1;hour 1;hour 1;hour 1;hour 1;hour 1;hour 1;hour 0", 7);
        fails("hour 0;hour 1;hour 1;hour 1;hour 1;hour 1;hour 1;hour 1", 0);
        fails("hour 12;hour 12;hour 12;hour 12;hour 12;hour 1;hour 1;hour 0", 7);
        malformed("hour 1;hour 1;hour 1;hour 1;hour 1;hour 1;hour 1;hour 1;", 56);
        malformed("hour 1;hour 1;hour 1;hour 1;hour 1;hour 1;hour 1;hour 1;hour", 60);
        malformed("hour 1;hour 1;hour 1;hour 1;hour 1;hour 1;hour 1;hour 1;gea1", 59);
        malformed("hour 1;hour 1;hour 1;hour 1;hour 1;hour 1;hour 1;hour 12;;", 57);
    }

    private static void promise51TheFormDecidesFirst() {
        malformed("gear 7;gear", 11);
        malformed("gear 7;hour 0;x", 14);
        malformed("turn 9+0;", 9);
    }

    private static void promise51OneChange() {
        GearObservatory x = Looks.made(CommandBoundariesTest::full);
        CHECK.same("execute behind many changes", Checks.execute(x, "turn 0+1;turn 1+1;turn 2+1"), 3);
        CHECK.same("undoCount() after it", x.undoCount(), 8);
        CHECK.same("undo of it", x.undo(), 7);
        GearObservatory first = new GearObservatory();
        Checks.execute(first, SIXTY);
        CHECK.same("undoCount() after eight commands", first.undoCount(), 1);
        CHECK.same("undo of eight commands", first.undo(), 0);
        CHECK.same("passHours(1) after it", first.passHours(1), 1);
    }

    // ---- promise 52 ----

    private static void promise52NoneAndEveryPosition() {
        Trials on = new Trials(CHECK, "no text", CommandBoundariesTest::someOfAll);
        on.noElement("errorPosition()", x -> x.errorPosition());
        Trials well = new Trials(CHECK, "a well-formed text", x -> Checks.execute(x, "gear 8"));
        well.noElement("errorPosition()", x -> x.errorPosition());
        for (int position = 0; position < 60; position++) {
            malformed(SIXTY.substring(0, position) + '\u0100' + SIXTY.substring(position + 1), position);
            // Cut behind a digit the text is well-formed, and so it is behind the first digit of two.
            if (position == 0 || !Character.isDigit(SIXTY.charAt(position - 1))) {
                malformed(SIXTY.substring(0, position), position);
            }
        }
    }

    private static void promise52DigitsLettersAndSigns() {
        for (char sign : new char[] {'/', ':', 'a', ' ', '+', '-', '0' + 256, '9' + 256, '\u0660'}) {
            malformed("gear " + sign, 5);
            malformed("mesh " + sign + "-1/0", 5);
            malformed("mesh 0-" + sign + "/0", 7);
            malformed("mesh 0-3/" + sign, 9);
            malformed("turn " + sign + "+1", 5);
            malformed("turn 0+" + sign, 7);
            malformed("turn 0-" + sign, 7);
            malformed("wheel " + sign + "*3", 6);
            malformed("wheel 0*" + sign, 8);
            malformed("note a" + sign, 6);
            malformed("hour " + sign, 5);
            malformed("gear 1" + sign, 6);
            malformed("gear 12" + sign, 7);
        }
        for (char sign : new char[] {'`', '{', 'A', 'Z', '0', ' ', 'a' + 256, 'z' + 256}) {
            malformed("note " + sign + "0", 5);
        }
        for (char sign : new char[] {'*', ',', '.', '/', '0', ' ', '-' + 256}) {
            malformed("turn 0" + sign + "1", 6);
            malformed("mesh 0" + sign + "3/0", 6);
        }
        for (char sign : new char[] {'.', '0', '-', ' ', '/' + 256}) {
            malformed("mesh 0-3" + sign + "0", 8);
        }
        for (char sign : new char[] {')', '+', '-', 'x', '0', '*' + 256}) {
            malformed("wheel 0" + sign + "3", 7);
        }
        for (char sign : new char[] {':', '<', ',', ' ', ';' + 256}) {
            malformed("note a0" + sign + "note a1", 7);
        }
    }

    private static void promise52KeywordsLetterByLetter() {
        String[] words = {"gear ", "mesh ", "turn ", "wheel ", "note ", "hour "};
        for (String word : words) {
            for (int length = 0; length <= word.length(); length++) {
                String start = word.substring(0, length);
                malformed(start, length);
                malformed("gear 8;" + start, 7 + length);
                malformed(start + '!', length);
                malformed(start + ';', length);
                if (length < word.length()) {
                    char next = word.charAt(length);
                    malformed(start + (next == ' ' ? '_' : Character.toUpperCase(next)), length);
                    // Four letters on, no keyword begins, which a nearer neighbour of a first letter may do.
                    malformed(start + (char) (next + 4) + word.substring(length + 1) + "8", length);
                    malformed(start + (char) (next + 256) + word.substring(length + 1) + "8", length);
                }
            }
        }
        malformed("hear 8", 1);
        malformed("mear 8", 2);
        malformed("geur 8", 2);
        malformed("noar 8", 2);
        malformed("hote a0", 2);
        malformed("wurn 0+1", 1);
        malformed("wheel0*3", 5);
        malformed("gears 8", 4);
    }

    private static void promise52Separators() {
        malformed(";", 0);
        malformed(";gear 8", 0);
        malformed("gear 8;", 7);
        malformed("gear 8;;gear 8", 7);
        malformed("gear 8; gear 8", 7);
        malformed("gear 8 ;gear 8", 6);
        malformed(" gear 8", 0);
        malformed("gear 8 ", 6);
        malformed("gear 18;", 8);
        malformed("gear 18 ", 7);
        malformed("gear 8\n", 6);
        malformed("gear 8gear 8", 6);
        malformed("note a0note a1", 7);
        malformed("mesh 0-3/0;;", 11);
        malformed("wheel 0*3,wheel 0*3", 9);
    }

    private static void promise52TooEarlyOrTooLong() {
        malformed("mesh 0", 6);
        malformed("mesh 0-", 7);
        malformed("mesh 0-3", 8);
        malformed("mesh 0-3/", 9);
        malformed("mesh 0-3/00", 10);
        malformed("mesh 00-3/0", 6);
        malformed("mesh 0-33/0", 8);
        malformed("turn 0", 6);
        malformed("turn 00+1", 6);
        malformed("turn 0+-1", 7);
        malformed("turn 0++1", 7);
        malformed("wheel 0", 7);
        malformed("wheel 00*3", 7);
        malformed("note a", 6);
        malformed("note aa0", 6);
        malformed("note a00", 7);
        malformed("note 0a", 5);
        malformed("hour -1", 5);
        malformed("hour +1", 5);
    }

    private static void promise52KeptLast() {
        GearObservatory x = new GearObservatory();
        feedAndExecute(x, "gear");
        CHECK.same("errorPosition() of the first", x.errorPosition(), 4);
        CHECK.same("errorPosition() asked again", x.errorPosition(), 4);
        Checks.feed(x, "mesh");
        CHECK.same("errorPosition() while a text is fed", x.errorPosition(), 4);
        Trials.quietly(x, y -> y.execute());
        feedAndExecute(x, "");
        CHECK.same("errorPosition() of the next, 0 too", x.errorPosition(), 0);
        feedAndExecute(x, "gear 8");
        CHECK.same("errorPosition() after a well-formed text", x.errorPosition(), 0);
        feedAndExecute(x, "ge");
        feedAndExecute(x, "gear 7");
        CHECK.same("errorPosition() after a failed command", x.errorPosition(), 2);
    }

    // ---- promise 53 ----

    private static void promise53NoneAndEveryCommand() {
        Trials on = new Trials(CHECK, "no text", CommandBoundariesTest::someOfAll);
        on.noElement("failedCommand()", x -> x.failedCommand());
        Trials well = new Trials(CHECK, "a well-formed text", x -> Checks.execute(x, "gear 8"));
        well.noElement("failedCommand()", x -> x.failedCommand());
        Trials bad = new Trials(CHECK, "a malformed text", x -> feedAndExecute(x, "gear 7;gear"));
        bad.noElement("failedCommand()", x -> x.failedCommand());
        for (int command = 0; command < 8; command++) {
            StringBuilder text = new StringBuilder();
            for (int i = 0; i < 8; i++) {
                text.append(i == 0 ? "" : ";").append(i == command ? "hour 0" : "hour 1");
            }
            fails(text.toString(), command);
            fails(text.toString().replace("hour 1;hour 1;hour 1;hour 0", "hour 1;hour 1;hour 1;gear 7"), command);
        }
    }

    private static void promise53KeptLast() {
        GearObservatory x = new GearObservatory();
        feedAndExecute(x, "gear 8;gear 7");
        CHECK.same("failedCommand() of the first", x.failedCommand(), 1);
        feedAndExecute(x, "gear 8");
        CHECK.same("failedCommand() after a text that did not fail", x.failedCommand(), 1);
        feedAndExecute(x, "gear 7;gear");
        CHECK.same("failedCommand() after a malformed text", x.failedCommand(), 1);
        feedAndExecute(x, "gear 7;gear 7");
        CHECK.same("failedCommand() of the next, 0 too", x.failedCommand(), 0);
    }

    // ---- promises 54 and 55 ----

    private static void promise54NoneToUndo() {
        Trials nothing = new Trials(CHECK, "nothing", x -> { });
        nothing.badState("undo()", x -> x.undo());
        Trials undone = new Trials(CHECK, "the only change undone", x -> {
            x.addGear(8);
            x.undo();
        });
        undone.badState("undo()", x -> x.undo());
        Trials eight = new Trials(CHECK, "all changes undone", x -> {
            full(x);
            for (int i = 0; i < 8; i++) {
                x.undo();
            }
        });
        eight.badState("undo()", x -> x.undo());
        eight.asks("undoCount()", 0, x -> x.undoCount());
    }

    private static void promise54EachChange() {
        for (int change = 0; change < CHANGES.length; change++) {
            int one = change;
            int changes = CHANGES[change].equals("follow by no teeth") ? 2 : 1;
            undoneIsAsBefore(CHANGES[change], CommandBoundariesTest::someOfAll, x -> change(x, one), changes);
        }
    }

    private static void undoneIsAsBefore(String what, Looks.Maker before, Looks.Maker changing, int changes) {
        String got = Looks.atThings(x -> {
            before.make(x);
            changing.make(x);
            for (int i = 0; i < changes; i++) {
                x.undo();
            }
        });
        same("undo of " + what, got, Looks.atThings(before));
        String changed = Looks.atThings(x -> {
            before.make(x);
            changing.make(x);
        });
        CHECK.no(what + " changes something", changed.equals(Looks.atThings(before)));
    }

    private static void promise54EachChangeBehindEightOthers() {
        for (int change = 0; change < CHANGES.length; change++) {
            for (int others = 0; others < 10; others++) {
                GearObservatory x = new GearObservatory();
                someOfAll(x);
                x.restore();
                for (int i = 0; i < others; i++) {
                    x.turn(3, 1);
                }
                change(x, change);
                int changes = CHANGES[change].equals("follow by no teeth") ? 2 : 1;
                int due = Math.min(others + changes, 8);
                CHECK.same("undoCount() after " + others + " others and " + CHANGES[change], x.undoCount(), due);
                for (int i = due - 1; i >= 0; i--) {
                    CHECK.same("undo after " + CHANGES[change], x.undo(), i);
                }
                CHECK.badState("undo after all of " + CHANGES[change], x::undo);
                CHECK.same("position(3) after all are undone", x.position(3), Math.max(others + changes - 8, 0));
            }
        }
    }

    private static void promise54LatestEight() {
        for (int turns = 0; turns < 30; turns++) {
            GearObservatory x = GearsTest.withGears(60);
            x.save();
            x.restore();
            for (int i = 0; i < turns; i++) {
                x.turn(0, 1);
            }
            int due = Math.min(turns, 8);
            CHECK.same("undoCount() after " + turns, x.undoCount(), due);
            for (int left = due - 1; left >= 0; left--) {
                CHECK.same("undo of " + turns, x.undo(), left);
                CHECK.same("position(0) after it", x.position(0), turns - due + left);
            }
            CHECK.badState("undo beyond the latest eight of " + turns, x::undo);
            CHECK.same("position(0) after it", x.position(0), turns - due);
        }
    }

    private static void promise54RefusedCallsAreNoChanges() {
        Trials on = new Trials(CHECK, "a full object", CommandBoundariesTest::full);
        on.badState("addGear(8)", x -> x.addGear(8));
        on.badArgument("addGear(7)", x -> x.addGear(7));
        on.badState("mesh(0, 1, 1)", x -> x.mesh(0, 1, 1));
        on.noElement("part(0, 2)", x -> x.part(0, 2));
        on.badArgument("turn(0, 0)", x -> x.turn(0, 0));
        on.badState("addWheel(0, 3)", x -> x.addWheel(0, 3));
        on.noElement("follow(0, 8)", x -> x.follow(0, 8));
        on.badState("addStar(0, 0)", x -> x.addStar(0, 0));
        on.noElement("removeStar(8)", x -> x.removeStar(8));
        on.badArgument("passHours(0)", x -> x.passHours(0));
        on.badState("catalogue('b', 0)", x -> x.catalogue('b', 0));
        on.noElement("forget('b', 0)", x -> x.forget('b', 0));
    }

    private static void promise54UndoIsNoChange() {
        GearObservatory x = GearsTest.withGears(20);
        x.turn(0, 1);
        x.turn(0, 2);
        x.undo();
        x.undo();
        CHECK.same("position(0): undo goes on, it does not turn about", x.position(0), 0);
        x.turn(0, 5);
        CHECK.same("undoCount() of a change in place of undone ones", x.undoCount(), 2);
        CHECK.same("undo of it", x.undo(), 1);
        CHECK.same("position(0) after it", x.position(0), 0);
    }

    private static void promise54TheIdThatIsGivenNext() {
        GearObservatory x = new GearObservatory();
        x.addStar(0, 0);
        x.addStar(1, 0);
        x.removeStar(1);
        CHECK.same("addStar after a removal", x.addStar(2, 0), 2);
        x.undo();
        CHECK.same("addStar after undo of addStar", x.addStar(3, 0), 2);
        x.undo();
        x.undo();
        CHECK.same("star(1) after undo of removeStar", x.star(1), 1);
        CHECK.same("direction(1) after undo of removeStar", x.direction(1), 1);
        CHECK.same("addStar after undo of removeStar", x.addStar(4, 0), 2);
        x.undo();
        x.undo();
        CHECK.same("addStar after undo of the second star", x.addStar(5, 0), 1);
    }

    private static void promises54To57TextsAreNotAffected() {
        Looks.Maker before = x -> {
            someOfAll(x);
            x.catalogue('b', 0);
            feedAndExecute(x, "gear 8;gear");
            feedAndExecute(x, "gear 8;gear 7");
            x.writeGear(0);
            Checks.feed(x, "gear 8;");
        };
        String due = Looks.atTexts(before);
        same("texts after undo", Looks.atTexts(x -> {
            before.make(x);
            x.undo();
            x.undo();
        }), due);
        same("texts after save", Looks.atTexts(x -> {
            before.make(x);
            x.save();
        }), due);
        same("texts after restore", Looks.atTexts(x -> {
            before.make(x);
            x.restore();
        }), due);
        Trials on = new Trials(CHECK, "a text half fed", before);
        on.gives("execute() of a text fed across undo", 2, x -> {
            x.undo();
            Checks.feed(x, "gear 9");
            return x.execute();
        });
        on.gives("execute() of a text fed across restore", 2, x -> {
            x.restore();
            Checks.feed(x, "gear 9");
            return x.execute();
        });
    }

    private static void promise55NoneToEight() {
        Trials nothing = new Trials(CHECK, "nothing", x -> { });
        nothing.asks("undoCount()", 0, x -> x.undoCount());
        GearObservatory x = new GearObservatory();
        for (int i = 1; i <= 20; i++) {
            x.passHours(1);
            CHECK.same("undoCount() after " + i, x.undoCount(), Math.min(i, 8));
        }
        x.undo();
        CHECK.same("undoCount() after undo of one of twenty", x.undoCount(), 7);
        x.passHours(1);
        CHECK.same("undoCount() after a change more", x.undoCount(), 8);
        x.passHours(1);
        CHECK.same("undoCount() after another change", x.undoCount(), 8);
    }

    // ---- promises 56 and 57 ----

    private static void promise56NoneAndTenGears() {
        Trials nothing = new Trials(CHECK, "nothing", x -> { });
        nothing.gives("save()", 0, x -> x.save());
        nothing.gives("restore() of no gears", 0, x -> {
            x.save();
            full(x);
            return x.restore();
        });
        nothing.gives("gearCount() after restore() of no gears", 0, x -> {
            x.save();
            full(x);
            x.restore();
            return x.gearCount();
        });
        Trials on = new Trials(CHECK, "a full object", CommandBoundariesTest::full);
        on.gives("save()", 10, x -> x.save());
        on.gives("restore() of ten gears", 10, x -> {
            x.save();
            return x.restore();
        });
        on.gives("restore() of ten gears after undo", 10, x -> {
            x.save();
            for (int i = 0; i < 8; i++) {
                x.undo();
            }
            return x.restore();
        });
    }

    private static void promise56InPlaceOfWhatWasSaved() {
        GearObservatory x = new GearObservatory();
        for (int gears = 0; gears <= 10; gears++) {
            CHECK.same("save() of " + gears, x.save(), gears);
            if (gears < 10) {
                x.addGear(20);
            }
        }
        x.turn(9, 1);
        CHECK.same("restore() of the last", x.restore(), 10);
        CHECK.same("position(9) of the last", x.position(9), 0);
        x.save();
        x.turn(9, 2);
        x.save();
        x.turn(9, 3);
        x.restore();
        CHECK.same("position(9) of the latest", x.position(9), 2);
    }

    private static void promise56SaveIsNoChange() {
        Trials on = new Trials(CHECK, "a full object", CommandBoundariesTest::full);
        on.gives("undoCount() after save()", 8, x -> {
            x.save();
            return x.undoCount();
        });
        on.gives("undo() after save()", 7, x -> {
            x.save();
            return x.undo();
        });
        same("things after save", Looks.atThings(x -> {
            full(x);
            x.save();
        }), Looks.atThings(CommandBoundariesTest::full));
        Trials nothing = new Trials(CHECK, "nothing but what is saved", x -> x.save());
        nothing.badState("undo()", x -> x.undo());
    }

    private static void promise57NothingSaved() {
        Trials nothing = new Trials(CHECK, "nothing", x -> { });
        nothing.badState("restore()", x -> x.restore());
        Trials on = new Trials(CHECK, "a full object", CommandBoundariesTest::full);
        on.badState("restore()", x -> x.restore());
        on.gives("undoCount() after a refused restore()", 8, x -> {
            Trials.quietly(x, y -> y.restore());
            return x.undoCount();
        });
    }

    private static void promise57StaysSaved() {
        Looks.Maker saved = x -> {
            someOfAll(x);
            x.save();
        };
        String due = Looks.atThings(saved);
        same("restore() at once", Looks.atThings(x -> {
            saved.make(x);
            x.restore();
        }), due);
        for (int change = 0; change < CHANGES.length; change++) {
            int one = change;
            same("restore() again after " + CHANGES[change], Looks.atThings(x -> {
                saved.make(x);
                x.restore();
                change(x, one);
                x.restore();
                change(x, one);
                x.undo();
                change(x, one);
                x.restore();
            }), due);
        }
        same("restore() after undo behind what is saved", Looks.atThings(x -> {
            saved.make(x);
            for (int i = 0; i < 8; i++) {
                x.undo();
            }
            x.restore();
        }), due);
    }

    private static void promise57NoChangeCanBeUndone() {
        Trials on = new Trials(CHECK, "what was restored", x -> {
            someOfAll(x);
            x.restore();
        });
        on.asks("undoCount()", 0, x -> x.undoCount());
        on.badState("undo()", x -> x.undo());
        on.gives("undo() of a change afterwards", 0, x -> {
            x.turn(0, 1);
            return x.undo();
        });
        same("undo of a change after restore", Looks.atThings(x -> {
            someOfAll(x);
            x.restore();
            x.turn(0, 50);
            x.undo();
        }), Looks.atThings(x -> {
            someOfAll(x);
            x.restore();
        }));
    }

    private static void promise57EachChange() {
        for (int change = 0; change < CHANGES.length; change++) {
            int one = change;
            same("restore() after " + CHANGES[change], Looks.atThings(x -> {
                someOfAll(x);
                x.save();
                change(x, one);
                x.restore();
            }), Looks.atThings(CommandBoundariesTest::someOfAll));
        }
        same("restore() of a full object over another", Looks.atThings(x -> {
            full(x);
            x.save();
            for (int i = 0; i < 6; i++) {
                x.forget('a', i);
                x.removeStar(i);
                x.turn(i, -5);
            }
            x.part(0, 1);
            x.part(5, 6);
            x.mesh(9, 1, 0);
            x.catalogue('z', 9);
            x.addStar(3, 3);
            x.passHours(50);
            x.restore();
        }), Looks.atThings(CommandBoundariesTest::full));
    }

    /** Other gears, wheels, stars and entries stand where the saved ones stood. */
    private static void promise57OverOtherThings() {
        Looks.Maker saved = x -> {
            x.addGear(20);
            x.addGear(30);
            x.addWheel(1, 5);
            x.addWheel(0, 7);
            x.addStar(5, 5);
            x.catalogue('a', 0);
            x.mesh(1, 0, 4);
        };
        same("restore() over other things", Looks.atThings(x -> {
            saved.make(x);
            x.save();
            for (int i = 0; i < 7; i++) {
                x.undo();
            }
            x.addGear(40);
            x.addGear(50);
            x.addGear(60);
            x.turn(1, 8);
            x.addWheel(2, 6);
            x.addWheel(1, 4);
            x.addWheel(0, 3);
            x.addStar(7, 7);
            x.addStar(8, 8);
            x.catalogue('a', 1);
            x.catalogue('a', 0);
            x.mesh(0, 2, 1);
            x.mesh(2, 1, 1);
            x.restore();
        }), Looks.atThings(saved));
    }
}
