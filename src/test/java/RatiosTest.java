/** Promises 18 to 22: ratios and free play. */
public final class RatiosTest {
    private static final Checks CHECK = new Checks("RatiosTest");

    public static void main(String[] args) {
        promises18To20Ratios();
        promises18To20OfAllTeeth();
        promises18To20Exceptions();
        promises21And22FreePlay();
        promises21And22AgreeWithTurn();
        promises21And22LongestPlay();
        promises21And22Exceptions();
        CHECK.end();
    }

    private static GearObservatory chain() {
        GearObservatory x = GearsTest.withGears(20, 30, 12, 60, 8);
        x.mesh(0, 1, 2);
        x.mesh(1, 2, 3);
        x.mesh(3, 2, 0);
        return x;
    }

    private static void ratio(GearObservatory x, int from, int to, int numerator, int denominator) {
        String pair = "(" + from + ", " + to + ")";
        CHECK.same("ratioNumerator" + pair, x.ratioNumerator(from, to), numerator);
        CHECK.same("ratioDenominator" + pair, x.ratioDenominator(from, to), denominator);
        CHECK.same("ratioNumeratorByChain" + pair, x.ratioNumeratorByChain(from, to), numerator);
    }

    private static void promises18To20Ratios() {
        GearObservatory x = chain();
        ratio(x, 0, 0, 1, 1);
        ratio(x, 4, 4, 1, 1);
        ratio(x, 0, 1, -2, 3);
        ratio(x, 1, 0, -3, 2);
        ratio(x, 0, 2, 5, 3);
        ratio(x, 2, 0, 3, 5);
        ratio(x, 0, 3, -1, 3);
        ratio(x, 3, 0, -3, 1);
        ratio(x, 1, 3, 1, 2);
        ratio(x, 3, 2, -5, 1);
        x.turn(0, 7);
        ratio(x, 0, 3, -1, 3);
    }

    private static void promises18To20OfAllTeeth() {
        for (int first = 8; first <= 60; first++) {
            for (int second = 8; second <= 60; second++) {
                GearObservatory x = GearsTest.withGears(first, 59, second);
                x.mesh(0, 1, 0);
                x.mesh(1, 2, 0);
                int common = first;
                while (first % common != 0 || second % common != 0) {
                    common--;
                }
                ratio(x, 0, 2, first / common, second / common);
            }
        }
    }

    private static void promises18To20Exceptions() {
        GearObservatory x = chain();
        CHECK.noIndex("ratioNumerator(0, 5)", () -> x.ratioNumerator(0, 5));
        CHECK.noIndex("ratioNumerator(-1, 0)", () -> x.ratioNumerator(-1, 0));
        CHECK.noIndex("ratioDenominator(5, 0)", () -> x.ratioDenominator(5, 0));
        CHECK.noIndex("ratioDenominator(0, -1)", () -> x.ratioDenominator(0, -1));
        CHECK.noIndex("ratioNumeratorByChain(5, 5)", () -> x.ratioNumeratorByChain(5, 5));
        CHECK.noIndex("ratioNumeratorByChain(-1, 4)", () -> x.ratioNumeratorByChain(-1, 4));
        CHECK.noElement("ratioNumerator(0, 4)", () -> x.ratioNumerator(0, 4));
        CHECK.noElement("ratioDenominator(4, 0)", () -> x.ratioDenominator(4, 0));
        CHECK.noElement("ratioNumeratorByChain(0, 4)", () -> x.ratioNumeratorByChain(0, 4));
    }

    private static void play(GearObservatory x, int from, int to, int due) {
        String pair = "(" + from + ", " + to + ")";
        CHECK.same("freePlay" + pair, x.freePlay(from, to), due);
        CHECK.same("freePlayByTurning" + pair, x.freePlayByTurning(from, to), due);
    }

    private static void promises21And22FreePlay() {
        GearObservatory x = chain();
        play(x, 0, 0, 0);
        play(x, 0, 1, 0);
        play(x, 0, 2, 3);
        play(x, 2, 0, 2);
        play(x, 0, 3, 3);
        play(x, 3, 0, 3);
        x.turn(0, 5);
        play(x, 0, 2, 0);
        play(x, 2, 0, 5);
        x.turn(0, -3);
        play(x, 0, 2, 3);
        play(x, 2, 0, 2);
        play(x, 1, 0, 2);
        CHECK.same("position(0) is not turned by asking", x.position(0), 2);
        CHECK.same("turnedTeeth() is not turned by asking", x.turnedTeeth(), 5 + 5 + 2 + 2 + 3 + 1);
        CHECK.same("gap(0, 1) is not changed by asking", x.gap(0, 1), 2);
    }

    private static void promises21And22AgreeWithTurn() {
        GearObservatory x = chain();
        x.turn(1, -4);
        for (int from = 0; from < 4; from++) {
            for (int to = 0; to < 4; to++) {
                int play = x.freePlay(from, to);
                int before = x.position(to);
                if (from != to && play > 0) {
                    x.turn(from, play);
                    CHECK.same("position after its free play", x.position(to), before);
                    x.undo();
                }
                x.turn(from, play + 1);
                CHECK.yes("position moves by one tooth more", x.position(to) != before);
                x.undo();
            }
        }
    }

    private static void promises21And22LongestPlay() {
        GearObservatory x = GearsTest.withGears(8, 9, 10, 11, 12, 13, 14, 15, 16, 17);
        for (int gear = 0; gear < 9; gear++) {
            x.mesh(gear, gear + 1, 5);
        }
        play(x, 0, 9, 20);
        play(x, 9, 0, 20);
        x.turn(0, 60);
        play(x, 0, 9, 0);
        play(x, 9, 0, 0);
        x.turn(0, -60);
        play(x, 0, 9, 45);
        play(x, 9, 0, 45);
        play(x, 4, 0, 0);
        play(x, 4, 9, 25);
        CHECK.same("the longest play turns no other end", x.turn(0, 45), 9);
        play(x, 0, 9, 0);
        CHECK.yes("isConsistent()", x.isConsistent());
    }

    private static void promises21And22Exceptions() {
        GearObservatory x = chain();
        CHECK.noIndex("freePlay(0, 5)", () -> x.freePlay(0, 5));
        CHECK.noIndex("freePlay(-1, 0)", () -> x.freePlay(-1, 0));
        CHECK.noIndex("freePlayByTurning(5, 0)", () -> x.freePlayByTurning(5, 0));
        CHECK.noIndex("freePlayByTurning(0, -1)", () -> x.freePlayByTurning(0, -1));
        CHECK.noElement("freePlay(0, 4)", () -> x.freePlay(0, 4));
        CHECK.noElement("freePlayByTurning(4, 3)", () -> x.freePlayByTurning(4, 3));
    }
}
