/**
 * Writes down all that an object shows. Some of it shows only in calls that change the object (the hours, the next
 * id, what can be undone, what is saved), so each look takes an object made anew, and stays far below 512 calls.
 */
final class Looks {
    /** Brings a new object into a state. */
    interface Maker {
        void make(GearObservatory x);
    }

    private static final int LOOKS_AT_THINGS = 4;
    private static final int LOOKS_AT_CHANGES = 6;

    private Looks() {
    }

    static GearObservatory made(Maker maker) {
        GearObservatory x = new GearObservatory();
        maker.make(x);
        return x;
    }

    /** Everything: what changes can change, and the input, the output and what is kept of failed texts. */
    static String atAll(Maker maker) {
        return atChanges(maker) + atTexts(maker);
    }

    /** What changes can change, with what can be undone and what is saved. */
    static String atChanges(Maker maker) {
        return looks(LOOKS_AT_CHANGES, maker);
    }

    /** Only what changes can change. */
    static String atThings(Maker maker) {
        return looks(LOOKS_AT_THINGS, maker);
    }

    /** The output, what is kept of failed texts, and the input. */
    static String atTexts(Maker maker) {
        return texts(made(maker));
    }

    private static String looks(int number, Maker maker) {
        StringBuilder text = new StringBuilder();
        for (int look = 0; look < number; look++) {
            text.append(one(look, made(maker))).append('\n');
        }
        return text.toString();
    }

    private static String one(int look, GearObservatory x) {
        switch (look) {
            case 0:
                return gears(x);
            case 1:
                return wheels(x);
            case 2:
                return stars(x);
            case 3:
                return entries(x);
            case 4:
                return past(x);
            default:
                return saved(x);
        }
    }

    private static String gears(GearObservatory x) {
        StringBuilder text = new StringBuilder("gears");
        for (int gear = 0; gear < x.gearCount(); gear++) {
            text.append(' ').append(x.teeth(gear)).append('@').append(x.position(gear));
            for (int other = 0; other < gear; other++) {
                if (x.doMesh(gear, other)) {
                    text.append('-').append(other).append('/').append(x.gap(gear, other));
                    text.append("of").append(x.slack(gear, other));
                }
            }
        }
        return text.append(" meshes ").append(x.meshCount()).append(" turned ").append(x.turnedTeeth()).toString();
    }

    private static String wheels(GearObservatory x) {
        StringBuilder text = new StringBuilder("wheels");
        for (int wheel = 0; wheel < x.wheelCount(); wheel++) {
            text.append(' ').append(x.gearOf(wheel)).append(':');
            int one = wheel;
            for (int spoke = 0; spoke < 13; spoke++) {
                int number = spoke;
                text.append(answer(() -> x.spokeDirection(one, number))).append(',');
            }
        }
        return text.toString();
    }

    private static String stars(GearObservatory x) {
        StringBuilder text = new StringBuilder("stars");
        for (int place = 0; place < x.starCount(); place++) {
            int star = x.star(place);
            text.append(' ').append(star).append('@').append(x.direction(star)).append("->");
            text.append(x.directionAfter(star, 1));
        }
        text.append(" hours ").append(x.passHours(1) - 1);
        if (x.starCount() == 8) {
            x.removeStar(x.star(0));
        }
        return text.append(" next id ").append(x.addStar(0, 0)).toString();
    }

    private static String entries(GearObservatory x) {
        StringBuilder text = new StringBuilder("entries");
        for (char letter = 'a'; letter <= 'z'; letter++) {
            for (int digit = 0; digit < 10; digit += letter < 'c' ? 1 : 9) {
                if (!x.isCatalogued(letter, digit)) {
                    continue;
                }
                text.append(' ').append(letter).append(digit);
                for (int gear = 0; gear < 11; gear++) {
                    char key = letter;
                    int number = digit;
                    int index = gear;
                    text.append(',').append(answer(() -> x.entryPosition(key, number, index)));
                }
            }
        }
        return text.toString();
    }

    private static String past(GearObservatory x) {
        StringBuilder text = new StringBuilder("past ").append(x.undoCount());
        for (int count = x.undoCount(); count > 0; count--) {
            text.append(" undo ").append(x.undo()).append(' ').append(shortly(x));
        }
        return text.append(" undo ").append(answer(x::undo)).toString();
    }

    private static String saved(GearObservatory x) {
        return "saved " + answer(x::restore) + ' ' + shortly(x) + ' ' + stars(x);
    }

    private static String shortly(GearObservatory x) {
        StringBuilder text = new StringBuilder();
        int gears = x.gearCount();
        for (int gear = 0; gear < gears; gear++) {
            text.append(x.position(gear)).append(' ');
        }
        text.append(x.meshCount()).append(' ').append(x.turnedTeeth()).append(' ').append(x.wheelCount());
        int stars = x.starCount();
        for (int place = 0; place < stars; place++) {
            int star = x.star(place);
            text.append(' ').append(star).append('@').append(x.direction(star));
        }
        return text.append(x.isCatalogued('a', 0)).append(x.isCatalogued('a', 1)).toString();
    }

    private static String texts(GearObservatory x) {
        StringBuilder text = new StringBuilder("output ");
        String sign = answer(() -> x.outputCharacter(0));
        for (int index = 1; index < 60 && sign.length() < 5; index++) {
            int next = index;
            text.append(sign).append(',');
            sign = answer(() -> x.outputCharacter(next));
        }
        text.append(" error ").append(answer(x::errorPosition)).append(" failed ").append(answer(x::failedCommand));
        return text.append(" input ").append(answer(() -> x.feed('x'))).toString();
    }

    /** The answer, or the name of the exception. */
    private static String answer(Checks.Call call) {
        try {
            return Long.toString(call.answer());
        } catch (RuntimeException e) {
            return e.getClass().getSimpleName();
        }
    }
}
