import java.util.NoSuchElementException;

/** Gears that mesh, wheels on them, stars, catalogued settings, text commands and undo. */
public final class GearObservatory {
    private static final int MAX_GEARS = 10;
    private static final int MIN_TEETH = 8;
    private static final int MAX_TEETH = 60;
    private static final int MAX_SLACK = 5;
    // Meshes never form a ring, so ten gears have room for nine of them.
    private static final int MAX_MESHES = MAX_GEARS - 1;
    private static final int MAX_TURN = 99;
    private static final int MAX_WHEELS = 4;
    private static final int MIN_SPOKES = 3;
    private static final int MAX_SPOKES = 12;
    private static final int MAX_STARS = 8;
    private static final int MAX_SPEED = 50;
    private static final int MAX_HOURS = 99;
    private static final int CIRCLE = 3600;
    private static final int HALF_CIRCLE = 1800;
    private static final int MAX_ENTRIES = 6;
    private static final int MAX_INPUT = 60;
    // The longest output: two digits, "@", an int's eleven signs, and four signs for each mesh.
    private static final int MAX_OUTPUT = 2 + 1 + 11 + 4 * MAX_MESHES;
    // Even the shortest commands, six signs and a semicolon, stand at most eight times in the input.
    private static final int MAX_COMMANDS = 9;
    private static final int VALUES_PER_COMMAND = 3;
    private static final int MAX_CHANGES = 8;
    private static final int MAX_EUCLID_STEPS = 100;

    private static final int NONE = -1;

    // A change answers one of these in place of its answer, which is never negative.
    private static final int BAD_INDEX = -1;
    private static final int BAD_ARGUMENT = -2;
    private static final int BAD_STATE = -3;
    private static final int NO_ELEMENT = -4;

    private final State now;
    private final State saved;
    private final History history;
    private final GearWalks walks;
    private final SignRow input;
    private final SignRow output;
    private final CommandReader reader;
    private boolean somethingSaved;
    private int keptErrorPosition;
    private int keptFailedCommand;

    public GearObservatory() {
        // A constructor hands out nothing of its own object, so what parts share is made ahead of them.
        State state = new State();
        SignRow text = new SignRow(MAX_INPUT);
        now = state;
        walks = new GearWalks(state.train);
        input = text;
        reader = new CommandReader(text);
        saved = new State();
        history = new History();
        output = new SignRow(MAX_OUTPUT);
        somethingSaved = false;
        keptErrorPosition = NONE;
        keptFailedCommand = NONE;
    }

    // ---- gears ----

    public int addGear(int teeth) throws IllegalArgumentException, IllegalStateException {
        history.begin(now);
        return settled(tryGear(teeth));
    }

    public int mesh(int first, int second, int slack)
            throws IndexOutOfBoundsException, IllegalArgumentException, IllegalStateException {
        history.begin(now);
        return settled(tryMesh(first, second, slack));
    }

    public int part(int first, int second) throws IndexOutOfBoundsException, NoSuchElementException {
        history.begin(now);
        return settled(tryPart(first, second));
    }

    public int turn(int gear, int teeth) throws IndexOutOfBoundsException, IllegalArgumentException {
        history.begin(now);
        return settled(tryTurn(gear, teeth));
    }

    public int gearCount() {
        return now.train.gearCount;
    }

    public int teeth(int gear) throws IndexOutOfBoundsException {
        needGear(gear);
        return now.train.teeth[gear];
    }

    public int position(int gear) throws IndexOutOfBoundsException {
        needGear(gear);
        return now.train.position[gear];
    }

    public int meshCount() {
        return now.train.meshCount;
    }

    public boolean doMesh(int first, int second) throws IndexOutOfBoundsException {
        needGear(first);
        needGear(second);
        return now.train.meshBetween(first, second) != NONE;
    }

    public int slack(int first, int second) throws IndexOutOfBoundsException, NoSuchElementException {
        return now.train.slack[neededMesh(first, second)];
    }

    public int gap(int first, int second) throws IndexOutOfBoundsException, NoSuchElementException {
        return now.train.gap[neededMesh(first, second)];
    }

    public boolean areConnected(int first, int second) throws IndexOutOfBoundsException {
        needGear(first);
        needGear(second);
        return walks.chainLength(first, second) != NONE;
    }

    public int trainSize(int gear) throws IndexOutOfBoundsException {
        needGear(gear);
        return walks.sizeOfTrain(gear);
    }

    public int trainCount() {
        return walks.countByWalks();
    }

    public int trainCountByUnions() {
        return walks.countByUniting();
    }

    public int turnedTeeth() {
        return now.train.turnedTeeth;
    }

    // ---- ratios and free play ----

    public int ratioNumerator(int from, int to) throws IndexOutOfBoundsException, NoSuchElementException {
        needConnected(from, to);
        return walks.numerator(from, to);
    }

    public int ratioDenominator(int from, int to) throws IndexOutOfBoundsException, NoSuchElementException {
        needConnected(from, to);
        return walks.denominator(from, to);
    }

    public int ratioNumeratorByChain(int from, int to) throws IndexOutOfBoundsException, NoSuchElementException {
        needConnected(from, to);
        return walks.numeratorAlongChain(from, to);
    }

    public int freePlay(int from, int to) throws IndexOutOfBoundsException, NoSuchElementException {
        needConnected(from, to);
        return walks.playOfGaps(from, to);
    }

    public int freePlayByTurning(int from, int to) throws IndexOutOfBoundsException, NoSuchElementException {
        needConnected(from, to);
        return walks.playOfTrial(from, to);
    }

    // ---- wheels ----

    public int addWheel(int gear, int spokes)
            throws IndexOutOfBoundsException, IllegalArgumentException, IllegalStateException {
        history.begin(now);
        return settled(tryWheel(gear, spokes));
    }

    public int wheelCount() {
        return now.wheels.count;
    }

    public int gearOf(int wheel) throws IndexOutOfBoundsException {
        needWheel(wheel);
        return now.wheels.gear[wheel];
    }

    public int spokeDirection(int wheel, int spoke) throws IndexOutOfBoundsException, IllegalArgumentException {
        needWheel(wheel);
        if (spoke < 0 || spoke >= now.wheels.spokes[wheel]) {
            throw new IllegalArgumentException();
        }
        return now.directionOfSpoke(wheel, spoke, 0);
    }

    public int nearestSpoke(int wheel, int star) throws IndexOutOfBoundsException, NoSuchElementException {
        needWheel(wheel);
        return now.closestSpoke(wheel, now.sky.direction[neededStar(star)]);
    }

    public int distanceToStar(int wheel, int star) throws IndexOutOfBoundsException, NoSuchElementException {
        needWheel(wheel);
        return now.leastDistance(wheel, now.sky.direction[neededStar(star)], 0);
    }

    public int teethToFollow(int wheel, int star) throws IndexOutOfBoundsException, NoSuchElementException {
        needWheel(wheel);
        return now.bestTurn(wheel, now.sky.direction[neededStar(star)]);
    }

    public int follow(int wheel, int star) throws IndexOutOfBoundsException, NoSuchElementException {
        history.begin(now);
        return settled(tryFollow(wheel, star));
    }

    // ---- stars ----

    public int addStar(int direction, int speed) throws IllegalArgumentException, IllegalStateException {
        history.begin(now);
        return settled(tryStar(direction, speed));
    }

    public int removeStar(int star) throws NoSuchElementException {
        history.begin(now);
        return settled(tryRemoval(star));
    }

    public int starCount() {
        return now.sky.count;
    }

    public int star(int position) throws IndexOutOfBoundsException {
        if (position < 0 || position >= now.sky.count) {
            throw new IndexOutOfBoundsException();
        }
        return now.sky.id[position];
    }

    public int direction(int star) throws NoSuchElementException {
        return now.sky.direction[neededStar(star)];
    }

    public int passHours(int hours) throws IllegalArgumentException {
        history.begin(now);
        return settled(tryHours(hours));
    }

    public int directionAfter(int star, int hours) throws NoSuchElementException, IllegalArgumentException {
        int place = neededStar(star);
        needHoursAhead(hours);
        int direction = now.sky.direction[place];
        for (int hour = 0; hour < hours; hour++) {
            direction = Math.floorMod(direction + now.sky.speed[place], CIRCLE);
        }
        return direction;
    }

    public int directionAfterAtOnce(int star, int hours) throws NoSuchElementException, IllegalArgumentException {
        int place = neededStar(star);
        needHoursAhead(hours);
        return now.sky.directionLater(place, hours);
    }

    public int nearestStar(int direction) throws IllegalArgumentException, NoSuchElementException {
        if (!isWithin(direction, 0, CIRCLE - 1)) {
            throw new IllegalArgumentException();
        }
        if (now.sky.count == 0) {
            throw new NoSuchElementException();
        }
        return now.sky.idNearest(direction);
    }

    // ---- catalogue, statistics and output ----

    public int catalogue(char letter, int digit) throws IllegalArgumentException, IllegalStateException {
        history.begin(now);
        return settled(tryEntry(letter, digit));
    }

    public int forget(char letter, int digit) throws IllegalArgumentException, NoSuchElementException {
        history.begin(now);
        return settled(tryForgetting(letter, digit));
    }

    public boolean isCatalogued(char letter, int digit) throws IllegalArgumentException {
        needKey(letter, digit);
        return now.entries.placeOf(letter, digit) != NONE;
    }

    public int entryPosition(char letter, int digit, int gear)
            throws IllegalArgumentException, NoSuchElementException {
        int place = neededEntry(letter, digit);
        if (gear < 0 || gear >= now.entries.gearCount[place]) {
            throw new NoSuchElementException();
        }
        return now.entries.positionIn(place, gear);
    }

    public int changedSince(char letter, int digit) throws IllegalArgumentException, NoSuchElementException {
        return now.entries.differencesTo(now.train, neededEntry(letter, digit));
    }

    public double meanTeeth() throws ArithmeticException {
        int gears = now.train.gearCount;
        if (gears == 0) {
            throw new ArithmeticException();
        }
        int sum = 0;
        for (int gear = 0; gear < gears; gear++) {
            sum += now.train.teeth[gear];
        }
        return (double) sum / (double) gears;
    }

    public float alignedFraction(int tolerance) throws IllegalArgumentException, ArithmeticException {
        if (!isWithin(tolerance, 0, HALF_CIRCLE)) {
            throw new IllegalArgumentException();
        }
        int wheels = now.wheels.count;
        if (wheels == 0) {
            throw new ArithmeticException();
        }
        int aligned = 0;
        for (int wheel = 0; wheel < wheels; wheel++) {
            if (now.isAligned(wheel, tolerance)) {
                aligned++;
            }
        }
        return (float) aligned / (float) wheels;
    }

    public int writeGear(int gear) throws IndexOutOfBoundsException {
        needGear(gear);
        GearTrain train = now.train;
        output.clear();
        output.putNumber(train.teeth[gear]);
        output.put('@');
        output.putNumber(train.position[gear]);
        for (int other = 0; other < train.gearCount; other++) {
            int mesh = train.meshBetween(gear, other);
            if (mesh != NONE) {
                output.put('-');
                output.putNumber(other);
                output.put('/');
                output.putNumber(train.gap[mesh]);
            }
        }
        return output.length;
    }

    public char outputCharacter(int index) throws IndexOutOfBoundsException {
        if (index < 0 || index >= output.length) {
            throw new IndexOutOfBoundsException();
        }
        return output.signs[index];
    }

    public boolean isConsistent() {
        int gears = now.train.gearCount;
        boolean agreed = walks.countByWalks() == walks.countByUniting();
        for (int from = 0; from < gears; from++) {
            for (int to = 0; to < gears; to++) {
                agreed = agreed && walks.methodsAgreeFor(from, to);
            }
        }
        return agreed;
    }

    // ---- commands, undo and saved state ----

    public int feed(char character) throws IllegalStateException {
        if (!input.put(character)) {
            throw new IllegalStateException();
        }
        return input.length;
    }

    public int execute() throws IllegalArgumentException, UnsupportedOperationException {
        boolean wellFormed = reader.readText();
        input.clear();
        if (!wellFormed) {
            keptErrorPosition = reader.at;
            throw new IllegalArgumentException();
        }
        history.begin(now);
        int performed = performUpToFailure();
        if (performed < reader.count) {
            history.takeBack(now);
            keptFailedCommand = performed;
            throw new UnsupportedOperationException();
        }
        history.keep();
        return performed;
    }

    public int errorPosition() throws NoSuchElementException {
        if (keptErrorPosition == NONE) {
            throw new NoSuchElementException();
        }
        return keptErrorPosition;
    }

    public int failedCommand() throws NoSuchElementException {
        if (keptFailedCommand == NONE) {
            throw new NoSuchElementException();
        }
        return keptFailedCommand;
    }

    public int undo() throws IllegalStateException {
        if (history.count == 0) {
            throw new IllegalStateException();
        }
        history.undoLatest(now);
        return history.count;
    }

    public int undoCount() {
        return history.count;
    }

    public int save() {
        saved.copyFrom(now);
        somethingSaved = true;
        return now.train.gearCount;
    }

    public int restore() throws IllegalStateException {
        if (!somethingSaved) {
            throw new IllegalStateException();
        }
        now.copyFrom(saved);
        history.count = 0;
        return now.train.gearCount;
    }

    // ---- changes: each answers its answer, or a fault that changed nothing ----

    private int tryGear(int teeth) {
        if (!isWithin(teeth, MIN_TEETH, MAX_TEETH)) {
            return BAD_ARGUMENT;
        }
        return now.train.gearCount >= MAX_GEARS ? BAD_STATE : now.train.addGearOf(teeth);
    }

    private int tryMesh(int first, int second, int slack) {
        if (!now.train.hasGear(first) || !now.train.hasGear(second)) {
            return BAD_INDEX;
        }
        if (!isWithin(slack, 0, MAX_SLACK)) {
            return BAD_ARGUMENT;
        }
        if (walks.chainLength(first, second) != NONE) {
            return BAD_STATE;
        }
        return now.train.join(first, second, slack);
    }

    private int tryPart(int first, int second) {
        if (!now.train.hasGear(first) || !now.train.hasGear(second)) {
            return BAD_INDEX;
        }
        int mesh = now.train.meshBetween(first, second);
        return mesh == NONE ? NO_ELEMENT : now.train.separate(mesh);
    }

    private int tryTurn(int gear, int teeth) {
        if (!now.train.hasGear(gear)) {
            return BAD_INDEX;
        }
        if (teeth == 0 || !isWithin(teeth, -MAX_TURN, MAX_TURN)) {
            return BAD_ARGUMENT;
        }
        return now.train.turnGear(gear, teeth);
    }

    private int tryWheel(int gear, int spokes) {
        if (!now.train.hasGear(gear)) {
            return BAD_INDEX;
        }
        if (!isWithin(spokes, MIN_SPOKES, MAX_SPOKES)) {
            return BAD_ARGUMENT;
        }
        return now.wheels.count >= MAX_WHEELS ? BAD_STATE : now.wheels.add(gear, spokes);
    }

    private int tryFollow(int wheel, int star) {
        if (!now.wheels.hasWheel(wheel)) {
            return BAD_INDEX;
        }
        int place = now.sky.placeOf(star);
        if (place == NONE) {
            return NO_ELEMENT;
        }
        int direction = now.sky.direction[place];
        int teeth = now.bestTurn(wheel, direction);
        if (teeth > 0) {
            now.train.turnGear(now.wheels.gear[wheel], teeth);
        }
        return now.leastDistance(wheel, direction, 0);
    }

    private int tryStar(int direction, int speed) {
        if (!isWithin(direction, 0, CIRCLE - 1) || !isWithin(speed, -MAX_SPEED, MAX_SPEED)) {
            return BAD_ARGUMENT;
        }
        return now.sky.count >= MAX_STARS ? BAD_STATE : now.sky.add(direction, speed);
    }

    private int tryRemoval(int star) {
        int place = now.sky.placeOf(star);
        return place == NONE ? NO_ELEMENT : now.sky.removeAt(place);
    }

    private int tryHours(int hours) {
        return isWithin(hours, 1, MAX_HOURS) ? now.sky.letPass(hours) : BAD_ARGUMENT;
    }

    private int tryEntry(char letter, int digit) {
        if (!isKey(letter, digit)) {
            return BAD_ARGUMENT;
        }
        if (now.entries.placeOf(letter, digit) == NONE && now.entries.count >= MAX_ENTRIES) {
            return BAD_STATE;
        }
        return now.entries.write(letter, digit, now.train);
    }

    private int tryForgetting(char letter, int digit) {
        if (!isKey(letter, digit)) {
            return BAD_ARGUMENT;
        }
        int place = now.entries.placeOf(letter, digit);
        return place == NONE ? NO_ELEMENT : now.entries.removeAt(place);
    }

    /** Only a change without a fault may become one that can be undone. */
    private int settled(int answer) {
        switch (answer) {
            case BAD_INDEX:
                throw new IndexOutOfBoundsException();
            case BAD_ARGUMENT:
                throw new IllegalArgumentException();
            case BAD_STATE:
                throw new IllegalStateException();
            case NO_ELEMENT:
                throw new NoSuchElementException();
            default:
                history.keep();
                return answer;
        }
    }

    /** Answers the index of the command that failed, or the number of all. */
    private int performUpToFailure() {
        for (int command = 0; command < reader.count; command++) {
            if (perform(command) < 0) {
                return command;
            }
        }
        return reader.count;
    }

    private int perform(int command) {
        int first = reader.valueOf(command, 0);
        int second = reader.valueOf(command, 1);
        int third = reader.valueOf(command, 2);
        switch (reader.kindOf(command)) {
            case 'g':
                return tryGear(first);
            case 'm':
                return tryMesh(first, second, third);
            case 't':
                return tryTurn(first, second);
            case 'w':
                return tryWheel(first, second);
            case 'n':
                return tryEntry((char) first, second);
            case 'h':
                return tryHours(first);
            default:
                return BAD_STATE;
        }
    }

    // ---- what a call needs ----

    private void needGear(int gear) {
        if (!now.train.hasGear(gear)) {
            throw new IndexOutOfBoundsException();
        }
    }

    private void needWheel(int wheel) {
        if (!now.wheels.hasWheel(wheel)) {
            throw new IndexOutOfBoundsException();
        }
    }

    private int neededMesh(int first, int second) {
        needGear(first);
        needGear(second);
        int mesh = now.train.meshBetween(first, second);
        if (mesh == NONE) {
            throw new NoSuchElementException();
        }
        return mesh;
    }

    private void needConnected(int from, int to) {
        needGear(from);
        needGear(to);
        if (walks.chainLength(from, to) == NONE) {
            throw new NoSuchElementException();
        }
    }

    private int neededStar(int star) {
        int place = now.sky.placeOf(star);
        if (place == NONE) {
            throw new NoSuchElementException();
        }
        return place;
    }

    private static void needHoursAhead(int hours) {
        if (!isWithin(hours, 0, MAX_HOURS)) {
            throw new IllegalArgumentException();
        }
    }

    private static void needKey(char letter, int digit) {
        if (!isKey(letter, digit)) {
            throw new IllegalArgumentException();
        }
    }

    private int neededEntry(char letter, int digit) {
        needKey(letter, digit);
        int place = now.entries.placeOf(letter, digit);
        if (place == NONE) {
            throw new NoSuchElementException();
        }
        return place;
    }

    private static boolean isKey(char letter, int digit) {
        return isWithin(letter, 'a', 'z') && isWithin(digit, 0, 9);
    }

    private static boolean isWithin(int number, int least, int most) {
        return number >= least && number <= most;
    }

    private static int distanceBetween(int direction, int other) {
        int around = Math.floorMod(direction - other, CIRCLE);
        return Math.min(around, CIRCLE - around);
    }

    /** The gears and their meshes. */
    private static final class GearTrain {
        int gearCount;
        int meshCount;
        int turnedTeeth;
        final int[] teeth = new int[MAX_GEARS];
        final int[] position = new int[MAX_GEARS];
        final int[] meshFirst = new int[MAX_MESHES];
        final int[] meshSecond = new int[MAX_MESHES];
        final int[] slack = new int[MAX_MESHES];
        final int[] gap = new int[MAX_MESHES];

        void copyFrom(GearTrain other) {
            gearCount = other.gearCount;
            meshCount = other.meshCount;
            turnedTeeth = other.turnedTeeth;
            System.arraycopy(other.teeth, 0, teeth, 0, MAX_GEARS);
            System.arraycopy(other.position, 0, position, 0, MAX_GEARS);
            System.arraycopy(other.meshFirst, 0, meshFirst, 0, MAX_MESHES);
            System.arraycopy(other.meshSecond, 0, meshSecond, 0, MAX_MESHES);
            System.arraycopy(other.slack, 0, slack, 0, MAX_MESHES);
            System.arraycopy(other.gap, 0, gap, 0, MAX_MESHES);
        }

        boolean hasGear(int gear) {
            return gear >= 0 && gear < gearCount;
        }

        int addGearOf(int toothNumber) {
            int gear = gearCount;
            if (gear < MAX_GEARS) {
                teeth[gear] = toothNumber;
                position[gear] = 0;
                gearCount++;
            }
            return gear;
        }

        int join(int first, int second, int meshSlack) {
            if (meshCount < MAX_MESHES) {
                meshFirst[meshCount] = first;
                meshSecond[meshCount] = second;
                slack[meshCount] = meshSlack;
                gap[meshCount] = 0;
                meshCount++;
            }
            return meshCount;
        }

        int separate(int mesh) {
            int lastGap = gap[mesh];
            meshCount--;
            for (int place = mesh; place < meshCount; place++) {
                meshFirst[place] = meshFirst[place + 1];
                meshSecond[place] = meshSecond[place + 1];
                slack[place] = slack[place + 1];
                gap[place] = gap[place + 1];
            }
            return lastGap;
        }

        /** NONE stands for a gear that has no part in the mesh. */
        int acrossFrom(int gear, int mesh) {
            if (meshFirst[mesh] == gear) {
                return meshSecond[mesh];
            }
            return meshSecond[mesh] == gear ? meshFirst[mesh] : NONE;
        }

        int meshBetween(int first, int second) {
            for (int mesh = 0; mesh < meshCount; mesh++) {
                if (acrossFrom(first, mesh) == second) {
                    return mesh;
                }
            }
            return NONE;
        }

        int turnGear(int gear, int teethToTurn) {
            return turnOnwards(this, gear, teethToTurn, NONE, 0);
        }

        private static int turnOnwards(GearTrain train, int gear, int teethToTurn, int turnedBy, int depth) {
            if (depth >= MAX_GEARS || !train.hasGear(gear)) {
                return 0;
            }
            train.position[gear] += teethToTurn;
            train.turnedTeeth += Math.abs(teethToTurn);
            int turned = 1;
            for (int mesh = 0; mesh < train.meshCount; mesh++) {
                int other = train.acrossFrom(gear, mesh);
                if (other != NONE && other != turnedBy) {
                    int rest = train.restAfterGap(mesh, teethToTurn);
                    if (rest != 0) {
                        turned += turnOnwards(train, other, -rest, gear, depth + 1);
                    }
                }
            }
            return turned;
        }

        private int restAfterGap(int mesh, int teethToTurn) {
            if (teethToTurn > 0) {
                int taken = Math.min(teethToTurn, gap[mesh]);
                gap[mesh] -= taken;
                return teethToTurn - taken;
            }
            int taken = Math.min(-teethToTurn, slack[mesh] - gap[mesh]);
            gap[mesh] += taken;
            return teethToTurn + taken;
        }
    }

    /** Answers questions about a train of gears; its rows are kept, so that no call makes new ones. */
    private static final class GearWalks {
        private final GearTrain train;
        private final GearTrain trial = new GearTrain();
        private final int[] chain = new int[MAX_GEARS];
        private final int[] setOf = new int[MAX_GEARS];
        private final boolean[] seen = new boolean[MAX_GEARS];

        GearWalks(GearTrain train) {
            this.train = train;
        }

        /** Leaves the gears of the chain in its row, for those who go along it; NONE if there is no chain. */
        int chainLength(int from, int to) {
            return extendChain(train, chain, from, to, NONE, 0);
        }

        private static int extendChain(GearTrain train, int[] chain, int gear, int to, int cameFrom, int depth) {
            if (depth >= chain.length) {
                return NONE;
            }
            chain[depth] = gear;
            if (gear == to) {
                return depth;
            }
            for (int mesh = 0; mesh < train.meshCount; mesh++) {
                int other = train.acrossFrom(gear, mesh);
                if (other != NONE && other != cameFrom) {
                    int length = extendChain(train, chain, other, to, gear, depth + 1);
                    if (length != NONE) {
                        return length;
                    }
                }
            }
            return NONE;
        }

        int sizeOfTrain(int gear) {
            forgetSeen();
            return walkFrom(train, seen, gear, 0);
        }

        int countByWalks() {
            forgetSeen();
            int trains = 0;
            for (int gear = 0; gear < train.gearCount; gear++) {
                if (walkFrom(train, seen, gear, 0) > 0) {
                    trains++;
                }
            }
            return trains;
        }

        private void forgetSeen() {
            for (int gear = 0; gear < MAX_GEARS; gear++) {
                seen[gear] = false;
            }
        }

        /** Counts only the gears that no walk has seen, so that a second walk through a train finds none. */
        private static int walkFrom(GearTrain train, boolean[] seen, int gear, int depth) {
            if (depth >= MAX_GEARS || !train.hasGear(gear) || seen[gear]) {
                return 0;
            }
            seen[gear] = true;
            int found = 1;
            for (int mesh = 0; mesh < train.meshCount; mesh++) {
                int other = train.acrossFrom(gear, mesh);
                if (other != NONE) {
                    found += walkFrom(train, seen, other, depth + 1);
                }
            }
            return found;
        }

        int countByUniting() {
            for (int gear = 0; gear < MAX_GEARS; gear++) {
                setOf[gear] = gear;
            }
            int sets = train.gearCount;
            for (int mesh = 0; mesh < train.meshCount; mesh++) {
                int kept = setOf[train.meshFirst[mesh]];
                int joined = setOf[train.meshSecond[mesh]];
                if (kept != joined) {
                    renameSet(joined, kept);
                    sets--;
                }
            }
            return sets;
        }

        private void renameSet(int oldName, int newName) {
            for (int gear = 0; gear < MAX_GEARS; gear++) {
                if (setOf[gear] == oldName) {
                    setOf[gear] = newName;
                }
            }
        }

        int numerator(int from, int to) {
            int size = reduced(train.teeth[from], train.teeth[to]);
            return chainLength(from, to) % 2 == 0 ? size : -size;
        }

        int denominator(int from, int to) {
            return reduced(train.teeth[to], train.teeth[from]);
        }

        int numeratorAlongChain(int from, int to) {
            int meshes = chainLength(from, to);
            int above = 1;
            int below = 1;
            for (int step = 0; step < meshes; step++) {
                int nextAbove = -above * train.teeth[chain[step]];
                int nextBelow = below * train.teeth[chain[step + 1]];
                above = reduced(nextAbove, nextBelow);
                below = reduced(nextBelow, nextAbove);
            }
            return above;
        }

        /** Euclid's steps are counted, so that the loop's end can be seen. */
        private static int reduced(int number, int other) {
            int common = Math.abs(number);
            int rest = Math.abs(other);
            for (int step = 0; step < MAX_EUCLID_STEPS && rest != 0; step++) {
                int next = common % rest;
                common = rest;
                rest = next;
            }
            return common > 1 ? number / common : number;
        }

        int playOfGaps(int from, int to) {
            int meshes = chainLength(from, to);
            int play = 0;
            for (int step = 0; step < meshes; step++) {
                int mesh = train.meshBetween(chain[step], chain[step + 1]);
                if (mesh != NONE) {
                    // Along the chain every second gear turns in the negative direction.
                    play += step % 2 == 0 ? train.gap[mesh] : train.slack[mesh] - train.gap[mesh];
                }
            }
            return play;
        }

        int playOfTrial(int from, int to) {
            trial.copyFrom(train);
            int start = trial.position[to];
            int play = 0;
            // Beyond the sum of all slacks no gear of the train stands still.
            for (int tooth = 0; tooth <= MAX_MESHES * MAX_SLACK; tooth++) {
                trial.turnGear(from, 1);
                if (trial.position[to] != start) {
                    return play;
                }
                play++;
            }
            return play;
        }

        boolean methodsAgreeFor(int from, int to) {
            if (chainLength(from, to) == NONE) {
                return true;
            }
            return numerator(from, to) == numeratorAlongChain(from, to)
                    && playOfGaps(from, to) == playOfTrial(from, to);
        }
    }

    /** The wheels: the gear and the number of spokes of each. */
    private static final class Wheels {
        int count;
        final int[] gear = new int[MAX_WHEELS];
        final int[] spokes = new int[MAX_WHEELS];

        void copyFrom(Wheels other) {
            count = other.count;
            System.arraycopy(other.gear, 0, gear, 0, MAX_WHEELS);
            System.arraycopy(other.spokes, 0, spokes, 0, MAX_WHEELS);
        }

        boolean hasWheel(int wheel) {
            return wheel >= 0 && wheel < count;
        }

        int add(int gearIndex, int spokeNumber) {
            int wheel = count;
            if (wheel < MAX_WHEELS) {
                gear[wheel] = gearIndex;
                spokes[wheel] = spokeNumber;
                count++;
            }
            return wheel;
        }
    }

    /** The stars in ascending order of ids, and the hours that have passed. */
    private static final class Sky {
        int count;
        int nextId;
        int hours;
        final int[] id = new int[MAX_STARS];
        final int[] direction = new int[MAX_STARS];
        final int[] speed = new int[MAX_STARS];

        void copyFrom(Sky other) {
            count = other.count;
            nextId = other.nextId;
            hours = other.hours;
            System.arraycopy(other.id, 0, id, 0, MAX_STARS);
            System.arraycopy(other.direction, 0, direction, 0, MAX_STARS);
            System.arraycopy(other.speed, 0, speed, 0, MAX_STARS);
        }

        int placeOf(int star) {
            for (int place = 0; place < count; place++) {
                if (id[place] == star) {
                    return place;
                }
            }
            return NONE;
        }

        int add(int starDirection, int starSpeed) {
            int star = nextId;
            if (count < MAX_STARS) {
                id[count] = star;
                direction[count] = starDirection;
                speed[count] = starSpeed;
                count++;
                nextId++;
            }
            return star;
        }

        int removeAt(int removed) {
            count--;
            for (int place = removed; place < count; place++) {
                id[place] = id[place + 1];
                direction[place] = direction[place + 1];
                speed[place] = speed[place + 1];
            }
            return count;
        }

        int letPass(int moreHours) {
            for (int place = 0; place < count; place++) {
                direction[place] = directionLater(place, moreHours);
            }
            hours += moreHours;
            return hours;
        }

        int directionLater(int place, int moreHours) {
            return Math.floorMod(direction[place] + speed[place] * moreHours, CIRCLE);
        }

        int idNearest(int wanted) {
            int nearest = NONE;
            int least = CIRCLE;
            for (int place = 0; place < count; place++) {
                int distance = distanceBetween(direction[place], wanted);
                if (distance < least) {
                    least = distance;
                    nearest = id[place];
                }
            }
            return nearest;
        }
    }

    /** The catalogued entries, in no order that a call could tell. */
    private static final class Entries {
        int count;
        final int[] letter = new int[MAX_ENTRIES];
        final int[] digit = new int[MAX_ENTRIES];
        final int[] gearCount = new int[MAX_ENTRIES];
        private final int[] positions = new int[MAX_ENTRIES * MAX_GEARS];

        void copyFrom(Entries other) {
            count = other.count;
            System.arraycopy(other.letter, 0, letter, 0, MAX_ENTRIES);
            System.arraycopy(other.digit, 0, digit, 0, MAX_ENTRIES);
            System.arraycopy(other.gearCount, 0, gearCount, 0, MAX_ENTRIES);
            System.arraycopy(other.positions, 0, positions, 0, MAX_ENTRIES * MAX_GEARS);
        }

        int placeOf(char keyLetter, int keyDigit) {
            for (int place = 0; place < count; place++) {
                if (letter[place] == keyLetter && digit[place] == keyDigit) {
                    return place;
                }
            }
            return NONE;
        }

        int write(char keyLetter, int keyDigit, GearTrain train) {
            int place = placeOf(keyLetter, keyDigit);
            if (place == NONE && count < MAX_ENTRIES) {
                place = count;
                count++;
            }
            if (place != NONE) {
                letter[place] = keyLetter;
                digit[place] = keyDigit;
                gearCount[place] = train.gearCount;
                System.arraycopy(train.position, 0, positions, place * MAX_GEARS, MAX_GEARS);
            }
            return count;
        }

        /** The last entry moves into the free place: no call tells the order of entries. */
        int removeAt(int place) {
            count--;
            letter[place] = letter[count];
            digit[place] = digit[count];
            gearCount[place] = gearCount[count];
            System.arraycopy(positions, count * MAX_GEARS, positions, place * MAX_GEARS, MAX_GEARS);
            return count;
        }

        int positionIn(int place, int gear) {
            return positions[place * MAX_GEARS + gear];
        }

        int differencesTo(GearTrain train, int place) {
            int differences = 0;
            for (int gear = 0; gear < gearCount[place]; gear++) {
                if (positionIn(place, gear) != train.position[gear]) {
                    differences++;
                }
            }
            return differences;
        }
    }

    /** Everything that changes can change. */
    private static final class State {
        final GearTrain train = new GearTrain();
        final Wheels wheels = new Wheels();
        final Sky sky = new Sky();
        final Entries entries = new Entries();

        void copyFrom(State other) {
            train.copyFrom(other.train);
            wheels.copyFrom(other.wheels);
            sky.copyFrom(other.sky);
            entries.copyFrom(other.entries);
        }

        /** With more teeth than 0 it looks ahead, so that no gear needs to be turned to try them. */
        int directionOfSpoke(int wheel, int spoke, int moreTeeth) {
            int gear = wheels.gear[wheel];
            int teeth = train.teeth[gear];
            int spokes = wheels.spokes[wheel];
            if (teeth < MIN_TEETH || spokes < MIN_SPOKES) {
                return 0;
            }
            int angle = Math.floorMod(train.position[gear] + moreTeeth, teeth);
            return (CIRCLE * angle / teeth + CIRCLE * spoke / spokes) % CIRCLE;
        }

        int leastDistance(int wheel, int direction, int moreTeeth) {
            int least = CIRCLE;
            for (int spoke = 0; spoke < wheels.spokes[wheel]; spoke++) {
                least = Math.min(least, distanceBetween(directionOfSpoke(wheel, spoke, moreTeeth), direction));
            }
            return least;
        }

        int closestSpoke(int wheel, int direction) {
            int closest = 0;
            int least = CIRCLE;
            for (int spoke = 0; spoke < wheels.spokes[wheel]; spoke++) {
                int distance = distanceBetween(directionOfSpoke(wheel, spoke, 0), direction);
                if (distance < least) {
                    least = distance;
                    closest = spoke;
                }
            }
            return closest;
        }

        int bestTurn(int wheel, int direction) {
            int best = 0;
            int least = CIRCLE;
            int teeth = train.teeth[wheels.gear[wheel]];
            for (int moreTeeth = 0; moreTeeth < teeth; moreTeeth++) {
                int distance = leastDistance(wheel, direction, moreTeeth);
                if (distance < least) {
                    least = distance;
                    best = moreTeeth;
                }
            }
            return best;
        }

        boolean isAligned(int wheel, int tolerance) {
            for (int place = 0; place < sky.count; place++) {
                if (leastDistance(wheel, sky.direction[place], 0) <= tolerance) {
                    return true;
                }
            }
            return false;
        }
    }

    /** What stood before each of the latest changes, in a ring with one more place for a change under way. */
    private static final class History {
        private static final int PLACES = MAX_CHANGES + 1;

        int count;
        private int open;
        private final State[] ring = new State[PLACES];

        History() {
            for (int place = 0; place < PLACES; place++) {
                ring[place] = new State();
            }
        }

        void begin(State now) {
            State place = ring[open];
            if (place != null) {
                place.copyFrom(now);
            }
        }

        void takeBack(State now) {
            State place = ring[open];
            if (place != null) {
                now.copyFrom(place);
            }
        }

        void keep() {
            open = (open + 1) % PLACES;
            count = Math.min(count + 1, MAX_CHANGES);
        }

        void undoLatest(State now) {
            open = (open + PLACES - 1) % PLACES;
            count--;
            takeBack(now);
        }
    }

    /** A row of signs with a fixed room. */
    private static final class SignRow {
        int length;
        final char[] signs;

        SignRow(int room) {
            signs = new char[Math.max(room, 0)];
        }

        void clear() {
            length = 0;
        }

        boolean put(char sign) {
            if (length >= signs.length) {
                return false;
            }
            signs[length] = sign;
            length++;
            return true;
        }

        void putNumber(int number) {
            if (number < 0) {
                put('-');
            }
            boolean begun = false;
            for (int unit = 1000000000; unit > 0; unit /= 10) {
                int digit = Math.abs(number / unit % 10);
                begun = begun || digit != 0 || unit == 1;
                if (begun) {
                    put((char) ('0' + digit));
                }
            }
        }
    }

    /** Reads the commands of a text; where it fails, "at" stays on the sign that cannot stand there. */
    private static final class CommandReader {
        int at;
        int count;
        private final SignRow text;
        private final int[] kinds = new int[MAX_COMMANDS];
        private final int[] values = new int[MAX_COMMANDS * VALUES_PER_COMMAND];

        CommandReader(SignRow text) {
            this.text = text;
        }

        boolean readText() {
            at = 0;
            count = 0;
            for (int command = 0; command < MAX_COMMANDS; command++) {
                if (!readCommand()) {
                    return false;
                }
                count++;
                if (!read(';')) {
                    return at == text.length;
                }
            }
            return false;
        }

        int kindOf(int command) {
            return command >= 0 && command < count ? kinds[command] : NONE;
        }

        int valueOf(int command, int place) {
            return command >= 0 && command < count ? values[command * VALUES_PER_COMMAND + place] : NONE;
        }

        private boolean readCommand() {
            // The keywords begin with different letters, so the first one tells the command.
            kinds[count] = signAhead();
            switch (kinds[count]) {
                case 'g':
                    return readWord("gear ") && readNumber(0, 1);
                case 'm':
                    return readWord("mesh ") && readDigit(0) && read('-') && readDigit(1) && read('/') && readDigit(2);
                case 't':
                    return readWord("turn ") && readDigit(0)
                            && (read('+') ? readNumber(1, 1) : read('-') && readNumber(1, -1));
                case 'w':
                    return readWord("wheel ") && readDigit(0) && read('*') && readNumber(1, 1);
                case 'n':
                    return readWord("note ") && readLetter(0) && readDigit(1);
                case 'h':
                    return readWord("hour ") && readNumber(0, 1);
                default:
                    return false;
            }
        }

        private int signAhead() {
            return at < text.length ? text.signs[at] : NONE;
        }

        private boolean read(char sign) {
            if (signAhead() != sign) {
                return false;
            }
            at++;
            return true;
        }

        private boolean readWord(String word) {
            for (int index = 0; index < word.length(); index++) {
                if (!read(word.charAt(index))) {
                    return false;
                }
            }
            return true;
        }

        private boolean readLetter(int place) {
            return readBetween('a', 'z', place, 0);
        }

        private boolean readDigit(int place) {
            return readBetween('0', '9', place, '0');
        }

        private boolean readBetween(char least, char most, int place, int zero) {
            int sign = signAhead();
            if (sign < least || sign > most) {
                return false;
            }
            setValue(place, sign - zero);
            at++;
            return true;
        }

        private boolean readNumber(int place, int factor) {
            if (!readDigit(place)) {
                return false;
            }
            int number = value(place);
            if (readDigit(place)) {
                number = 10 * number + value(place);
            }
            setValue(place, factor * number);
            return true;
        }

        private int value(int place) {
            return values[count * VALUES_PER_COMMAND + place];
        }

        private void setValue(int place, int number) {
            values[count * VALUES_PER_COMMAND + place] = number;
        }
    }
}
