import java.math.BigInteger;
import java.util.ArrayDeque;
import java.util.ArrayList;
import java.util.Arrays;
import java.util.Deque;
import java.util.List;
import java.util.Map;
import java.util.NoSuchElementException;
import java.util.TreeMap;
import java.util.regex.Matcher;
import java.util.regex.Pattern;

/** The document's calls written a second time, with the Java library and other ways of computing. */
final class PlainObservatory {
    private static final String COMMAND = "(gear \\d\\d?|mesh \\d-\\d/\\d|turn \\d[+-]\\d\\d?"
            + "|wheel \\d\\*\\d\\d?|note [a-z]\\d|hour \\d\\d?)";
    private static final Pattern TEXT = Pattern.compile(COMMAND + "(;" + COMMAND + ")*", Pattern.DOTALL);

    /** All that changes can change. */
    private static final class All {
        final List<Integer> teeth = new ArrayList<>();
        final List<Integer> positions = new ArrayList<>();
        /** Pairs in both orders: "a b" to slack and gap. */
        final Map<String, int[]> meshes = new TreeMap<>();
        final List<int[]> wheels = new ArrayList<>();
        final TreeMap<Integer, int[]> stars = new TreeMap<>();
        final Map<String, List<Integer>> entries = new TreeMap<>();
        int turned;
        int nextStar;
        int hours;

        All copy() {
            All all = new All();
            all.teeth.addAll(teeth);
            all.positions.addAll(positions);
            for (String pair : meshes.keySet()) {
                String[] ends = pair.split(" ");
                if (Integer.parseInt(ends[0]) < Integer.parseInt(ends[1])) {
                    int[] mesh = meshes.get(pair).clone();
                    all.meshes.put(pair, mesh);
                    all.meshes.put(ends[1] + " " + ends[0], mesh);
                }
            }
            wheels.forEach(wheel -> all.wheels.add(wheel.clone()));
            stars.forEach((id, star) -> all.stars.put(id, star.clone()));
            entries.forEach((key, entry) -> all.entries.put(key, new ArrayList<>(entry)));
            all.turned = turned;
            all.nextStar = nextStar;
            all.hours = hours;
            return all;
        }
    }

    private All all = new All();
    private All saved;
    private final Deque<All> past = new ArrayDeque<>();
    private String input = "";
    private String output = "";
    private Integer error;
    private Integer failed;

    private static void need(boolean held, RuntimeException otherwise) {
        if (!held) {
            throw otherwise;
        }
    }

    private void needGears(int... gears) {
        for (int gear : gears) {
            need(gear >= 0 && gear < all.teeth.size(), new IndexOutOfBoundsException());
        }
    }

    private void needWheel(int wheel) {
        need(wheel >= 0 && wheel < all.wheels.size(), new IndexOutOfBoundsException());
    }

    private int[] starOf(int id) {
        need(all.stars.containsKey(id), new NoSuchElementException());
        return all.stars.get(id);
    }

    private static boolean in(int number, int least, int most) {
        return least <= number && number <= most;
    }

    private void remember() {
        past.addLast(all.copy());
        if (past.size() > 8) {
            past.removeFirst();
        }
    }

    int addGear(int teeth) {
        need(in(teeth, 8, 60), new IllegalArgumentException());
        need(all.teeth.size() < 10, new IllegalStateException());
        remember();
        all.teeth.add(teeth);
        all.positions.add(0);
        return all.teeth.size() - 1;
    }

    int mesh(int first, int second, int slack) {
        needGears(first, second);
        need(in(slack, 0, 5), new IllegalArgumentException());
        need(!areConnected(first, second), new IllegalStateException());
        remember();
        int[] mesh = {slack, 0};
        all.meshes.put(first + " " + second, mesh);
        all.meshes.put(second + " " + first, mesh);
        return meshCount();
    }

    private int[] meshOf(int first, int second) {
        needGears(first, second);
        need(all.meshes.containsKey(first + " " + second), new NoSuchElementException());
        return all.meshes.get(first + " " + second);
    }

    int part(int first, int second) {
        int gap = meshOf(first, second)[1];
        remember();
        all.meshes.remove(first + " " + second);
        all.meshes.remove(second + " " + first);
        return gap;
    }

    int turn(int gear, int teeth) {
        needGears(gear);
        need(teeth != 0 && in(teeth, -99, 99), new IllegalArgumentException());
        remember();
        return turnAll(all, gear, teeth);
    }

    private static int turnAll(All all, int gear, int teeth) {
        Deque<int[]> toTurn = new ArrayDeque<>();
        toTurn.add(new int[] {gear, teeth, -1});
        int turned = 0;
        while (!toTurn.isEmpty()) {
            int[] one = toTurn.remove();
            turned++;
            all.positions.set(one[0], all.positions.get(one[0]) + one[1]);
            all.turned += Math.abs(one[1]);
            for (int other = 0; other < all.teeth.size(); other++) {
                int[] mesh = all.meshes.get(one[0] + " " + other);
                if (mesh == null || other == one[2]) {
                    continue;
                }
                // The gap as a number line: it runs from 0 to the slack, and what goes beyond turns the other gear.
                int wanted = mesh[1] - one[1];
                mesh[1] = Math.max(0, Math.min(mesh[0], wanted));
                if (wanted != mesh[1]) {
                    toTurn.add(new int[] {other, wanted - mesh[1], one[0]});
                }
            }
        }
        return turned;
    }

    int gearCount() {
        return all.teeth.size();
    }

    int teeth(int gear) {
        needGears(gear);
        return all.teeth.get(gear);
    }

    int position(int gear) {
        needGears(gear);
        return all.positions.get(gear);
    }

    int meshCount() {
        return all.meshes.size() / 2;
    }

    boolean doMesh(int first, int second) {
        needGears(first, second);
        return all.meshes.containsKey(first + " " + second);
    }

    int slack(int first, int second) {
        return meshOf(first, second)[0];
    }

    int gap(int first, int second) {
        return meshOf(first, second)[1];
    }

    /** How many meshes lead from a gear to each other one, or -1, by spreading until nothing changes. */
    private int[] stepsFrom(int gear) {
        int[] steps = new int[all.teeth.size()];
        Arrays.fill(steps, -1);
        steps[gear] = 0;
        for (int round = 0; round < steps.length; round++) {
            for (int a = 0; a < steps.length; a++) {
                for (int b = 0; b < steps.length; b++) {
                    if (steps[a] == round && steps[b] < 0 && all.meshes.containsKey(a + " " + b)) {
                        steps[b] = round + 1;
                    }
                }
            }
        }
        return steps;
    }

    boolean areConnected(int first, int second) {
        needGears(first, second);
        return stepsFrom(first)[second] >= 0;
    }

    int trainSize(int gear) {
        needGears(gear);
        return (int) Arrays.stream(stepsFrom(gear)).filter(steps -> steps >= 0).count();
    }

    int trainCount() {
        // Without rings every mesh joins two trains to one.
        return gearCount() - meshCount();
    }

    int turnedTeeth() {
        return all.turned;
    }

    private int stepsBetween(int from, int to) {
        needGears(from, to);
        int steps = stepsFrom(from)[to];
        need(steps >= 0, new NoSuchElementException());
        return steps;
    }

    int ratioNumerator(int from, int to) {
        int sign = stepsBetween(from, to) % 2 == 0 ? 1 : -1;
        return sign * all.teeth.get(from) / common(from, to);
    }

    int ratioDenominator(int from, int to) {
        stepsBetween(from, to);
        return all.teeth.get(to) / common(from, to);
    }

    private int common(int from, int to) {
        return BigInteger.valueOf(all.teeth.get(from)).gcd(BigInteger.valueOf(all.teeth.get(to))).intValue();
    }

    int freePlay(int from, int to) {
        stepsBetween(from, to);
        for (int teeth = 1; ; teeth++) {
            All trial = all.copy();
            turnAll(trial, from, teeth);
            if (!trial.positions.get(to).equals(all.positions.get(to))) {
                return teeth - 1;
            }
        }
    }

    int addWheel(int gear, int spokes) {
        needGears(gear);
        need(in(spokes, 3, 12), new IllegalArgumentException());
        need(all.wheels.size() < 4, new IllegalStateException());
        remember();
        all.wheels.add(new int[] {gear, spokes});
        return all.wheels.size() - 1;
    }

    int wheelCount() {
        return all.wheels.size();
    }

    int gearOf(int wheel) {
        needWheel(wheel);
        return all.wheels.get(wheel)[0];
    }

    private static int points(All all, int wheel, int spoke) {
        int[] one = all.wheels.get(wheel);
        int teeth = all.teeth.get(one[0]);
        int angle = (all.positions.get(one[0]) % teeth + teeth) % teeth;
        return (3600 * angle / teeth + 3600 * spoke / one[1]) % 3600;
    }

    private static int distance(int one, int other) {
        int between = Math.abs(one - other);
        return Math.min(between, 3600 - between);
    }

    private static int distanceOf(All all, int wheel, int direction) {
        int least = 9999;
        for (int spoke = 0; spoke < all.wheels.get(wheel)[1]; spoke++) {
            least = Math.min(least, distance(points(all, wheel, spoke), direction));
        }
        return least;
    }

    int spokeDirection(int wheel, int spoke) {
        needWheel(wheel);
        need(spoke >= 0 && spoke < all.wheels.get(wheel)[1], new IllegalArgumentException());
        return points(all, wheel, spoke);
    }

    int nearestSpoke(int wheel, int star) {
        needWheel(wheel);
        int direction = starOf(star)[0];
        int spoke = 0;
        while (distance(points(all, wheel, spoke), direction) > distanceOf(all, wheel, direction)) {
            spoke++;
        }
        return spoke;
    }

    int distanceToStar(int wheel, int star) {
        needWheel(wheel);
        return distanceOf(all, wheel, starOf(star)[0]);
    }

    int teethToFollow(int wheel, int star) {
        needWheel(wheel);
        int direction = starOf(star)[0];
        int gear = all.wheels.get(wheel)[0];
        All trial = all.copy();
        int best = 0;
        int least = 9999;
        for (int teeth = 0; teeth < all.teeth.get(gear); teeth++) {
            if (distanceOf(trial, wheel, direction) < least) {
                least = distanceOf(trial, wheel, direction);
                best = teeth;
            }
            turnAll(trial, gear, 1);
        }
        return best;
    }

    int follow(int wheel, int star) {
        int teeth = teethToFollow(wheel, star);
        remember();
        if (teeth > 0) {
            turnAll(all, all.wheels.get(wheel)[0], teeth);
        }
        return distanceToStar(wheel, star);
    }

    int addStar(int direction, int speed) {
        need(in(direction, 0, 3599) && in(speed, -50, 50), new IllegalArgumentException());
        need(all.stars.size() < 8, new IllegalStateException());
        remember();
        all.stars.put(all.nextStar, new int[] {direction, speed});
        return all.nextStar++;
    }

    int removeStar(int star) {
        starOf(star);
        remember();
        all.stars.remove(star);
        return all.stars.size();
    }

    int starCount() {
        return all.stars.size();
    }

    int star(int position) {
        need(position >= 0 && position < all.stars.size(), new IndexOutOfBoundsException());
        return new ArrayList<>(all.stars.keySet()).get(position);
    }

    int direction(int star) {
        return starOf(star)[0];
    }

    int passHours(int hours) {
        need(in(hours, 1, 99), new IllegalArgumentException());
        remember();
        for (int[] star : all.stars.values()) {
            star[0] = later(star, hours);
        }
        all.hours += hours;
        return all.hours;
    }

    private static int later(int[] star, int hours) {
        int direction = star[0] + star[1] * hours;
        while (direction < 0) {
            direction += 3600;
        }
        return direction % 3600;
    }

    int directionAfter(int star, int hours) {
        int[] one = starOf(star);
        need(in(hours, 0, 99), new IllegalArgumentException());
        return later(one, hours);
    }

    int nearestStar(int direction) {
        need(in(direction, 0, 3599), new IllegalArgumentException());
        need(!all.stars.isEmpty(), new NoSuchElementException());
        int nearest = all.stars.firstKey();
        for (int id : all.stars.keySet()) {
            if (distance(all.stars.get(id)[0], direction) < distance(all.stars.get(nearest)[0], direction)) {
                nearest = id;
            }
        }
        return nearest;
    }

    private static String key(char letter, int digit) {
        need(in(letter, 'a', 'z') && in(digit, 0, 9), new IllegalArgumentException());
        return "" + letter + digit;
    }

    private List<Integer> entryOf(char letter, int digit) {
        List<Integer> entry = all.entries.get(key(letter, digit));
        need(entry != null, new NoSuchElementException());
        return entry;
    }

    int catalogue(char letter, int digit) {
        String key = key(letter, digit);
        need(all.entries.containsKey(key) || all.entries.size() < 6, new IllegalStateException());
        remember();
        all.entries.put(key, new ArrayList<>(all.positions));
        return all.entries.size();
    }

    int forget(char letter, int digit) {
        entryOf(letter, digit);
        remember();
        all.entries.remove(key(letter, digit));
        return all.entries.size();
    }

    boolean isCatalogued(char letter, int digit) {
        return all.entries.containsKey(key(letter, digit));
    }

    int entryPosition(char letter, int digit, int gear) {
        List<Integer> entry = entryOf(letter, digit);
        need(gear >= 0 && gear < entry.size(), new NoSuchElementException());
        return entry.get(gear);
    }

    int changedSince(char letter, int digit) {
        List<Integer> entry = entryOf(letter, digit);
        int changed = 0;
        for (int gear = 0; gear < entry.size(); gear++) {
            changed += entry.get(gear).equals(all.positions.get(gear)) ? 0 : 1;
        }
        return changed;
    }

    double meanTeeth() {
        need(!all.teeth.isEmpty(), new ArithmeticException());
        return all.teeth.stream().mapToInt(Integer::intValue).average().getAsDouble();
    }

    float alignedFraction(int tolerance) {
        need(in(tolerance, 0, 1800), new IllegalArgumentException());
        need(!all.wheels.isEmpty(), new ArithmeticException());
        float aligned = 0;
        for (int wheel = 0; wheel < all.wheels.size(); wheel++) {
            int one = wheel;
            if (all.stars.values().stream().anyMatch(star -> distanceOf(all, one, star[0]) <= tolerance)) {
                aligned++;
            }
        }
        return aligned / all.wheels.size();
    }

    int writeGear(int gear) {
        needGears(gear);
        output = all.teeth.get(gear) + "@" + all.positions.get(gear);
        for (int other = 0; other < all.teeth.size(); other++) {
            if (doMesh(gear, other)) {
                output += "-" + other + "/" + gap(gear, other);
            }
        }
        return output.length();
    }

    char outputCharacter(int index) {
        need(index >= 0 && index < output.length(), new IndexOutOfBoundsException());
        return output.charAt(index);
    }

    int feed(char character) {
        need(input.length() < 60, new IllegalStateException());
        input += character;
        return input.length();
    }

    int execute() {
        String text = input;
        input = "";
        if (!TEXT.matcher(text).matches()) {
            int viable = text.length();
            while (viable > 0 && !canGoOn(text.substring(0, viable))) {
                viable--;
            }
            error = viable;
            throw new IllegalArgumentException();
        }
        All before = all.copy();
        Deque<All> pastBefore = new ArrayDeque<>(past);
        String[] commands = text.split(";");
        for (int i = 0; i < commands.length; i++) {
            try {
                perform(commands[i]);
            } catch (RuntimeException e) {
                all = before;
                past.clear();
                past.addAll(pastBefore);
                failed = i;
                throw new UnsupportedOperationException();
            }
        }
        past.clear();
        past.addAll(pastBefore);
        past.addLast(before);
        if (past.size() > 8) {
            past.removeFirst();
        }
        return commands.length;
    }

    private static boolean canGoOn(String start) {
        Matcher matcher = TEXT.matcher(start);
        return matcher.matches() || matcher.hitEnd();
    }

    private void perform(String command) {
        String[] words = command.split("[ /*]|(?<=\\d)-|\\+");
        switch (words[0]) {
            case "gear":
                addGear(Integer.parseInt(words[1]));
                break;
            case "mesh":
                mesh(Integer.parseInt(words[1]), Integer.parseInt(words[2]), Integer.parseInt(words[3]));
                break;
            case "turn":
                int teeth = Integer.parseInt(words[2]);
                turn(Integer.parseInt(words[1]), command.contains("-") ? -teeth : teeth);
                break;
            case "wheel":
                addWheel(Integer.parseInt(words[1]), Integer.parseInt(words[2]));
                break;
            case "note":
                catalogue(words[1].charAt(0), words[1].charAt(1) - '0');
                break;
            default:
                passHours(Integer.parseInt(words[1]));
        }
    }

    int errorPosition() {
        need(error != null, new NoSuchElementException());
        return error;
    }

    int failedCommand() {
        need(failed != null, new NoSuchElementException());
        return failed;
    }

    int undo() {
        need(!past.isEmpty(), new IllegalStateException());
        all = past.removeLast();
        return past.size();
    }

    int undoCount() {
        return past.size();
    }

    int save() {
        saved = all.copy();
        return all.teeth.size();
    }

    int restore() {
        need(saved != null, new IllegalStateException());
        all = saved.copy();
        past.clear();
        return all.teeth.size();
    }
}
