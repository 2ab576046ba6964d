import java.util.NoSuchElementException;

/**
 * A dock in which ships are cleaned: a gate to a sea with tides, a pump, blocks on which ships
 * rest, and bills.
 */
public final class FloatingDock {

    private static final int NOTHING = -1;

    private Dock now = new Dock();
    private Dock before = new Dock();
    private final History history = new History();
    private final Dock snapshot = new Dock();
    private boolean hasSnapshot = false;
    private final Fitting fitting = new Fitting();
    private final CommandText commands = new CommandText();
    private final StringBuilder line = new StringBuilder();
    private int keptReason = NOTHING;
    private int lastError = NOTHING;
    private int lastFailure = NOTHING;

    public FloatingDock() {
    }

    // ---- ships

    public int addShip(int length, int draught, int dirt)
            throws IllegalArgumentException, IllegalStateException {
        startChange();
        int id = now.ships.register(length, draught, dirt);
        keepChange();
        return id;
    }

    public int removeShip(int ship) throws NoSuchElementException, IllegalStateException {
        startChange();
        int dirt = now.ships.strike(ship);
        keepChange();
        return dirt;
    }

    public int enter(int ship, int position)
            throws NoSuchElementException, IllegalArgumentException, IllegalStateException,
            UnsupportedOperationException {
        startChange();
        int inDock = letIn(ship, position);
        keepChange();
        return inDock;
    }

    public int leave(int ship)
            throws NoSuchElementException, IllegalStateException, UnsupportedOperationException {
        startChange();
        int inDock = letOut(ship);
        keepChange();
        return inDock;
    }

    public boolean setCleaning(int ship, boolean isCleaned)
            throws NoSuchElementException, IllegalStateException {
        startChange();
        boolean wasCleaned = now.switchCleaning(ship, isCleaned);
        keepChange();
        return wasCleaned;
    }

    public int shipCount() {
        return now.ships.count;
    }

    public int shipAt(int place) throws IndexOutOfBoundsException {
        if (place < 0 || place >= now.ships.count) {
            throw new IndexOutOfBoundsException("no such place");
        }
        return now.ships.rows[place].id;
    }

    public boolean isInDock(int ship) throws NoSuchElementException {
        return now.ships.known(ship).isDocked();
    }

    public int positionOf(int ship) throws NoSuchElementException, IllegalStateException {
        return now.ships.docked(ship).position;
    }

    public int dirtOf(int ship) throws NoSuchElementException {
        return now.ships.known(ship).dirt;
    }

    public int damageOf(int ship) throws NoSuchElementException {
        return now.ships.known(ship).damage;
    }

    public int hoursAfloat(int ship) throws NoSuchElementException {
        return now.ships.known(ship).afloatHours;
    }

    public boolean isAfloat(int ship) throws NoSuchElementException {
        return now.ships.known(ship).floatsAt(now.waterLevel);
    }

    public int refusalReason() throws NoSuchElementException {
        if (keptReason == NOTHING) {
            throw new NoSuchElementException("nothing was refused");
        }
        return keptReason;
    }

    // ---- water

    public boolean setGate(boolean isOpen) throws UnsupportedOperationException {
        startChange();
        boolean wasOpen = now.moveGate(isOpen);
        keepChange();
        return wasOpen;
    }

    public boolean isGateOpen() {
        return now.gateOpen;
    }

    public int setPump(int rate) throws IllegalArgumentException {
        startChange();
        int previous = now.changeRate(rate);
        keepChange();
        return previous;
    }

    public int level() {
        return now.waterLevel;
    }

    public int seaLevel(int hour) throws IllegalArgumentException {
        Sea.checkHour(hour);
        return Sea.byFormula(hour);
    }

    public int seaLevelByHours(int hour) throws IllegalArgumentException {
        Sea.checkHour(hour);
        return Sea.byHours(hour);
    }

    public int pass(int hours) throws IllegalArgumentException {
        startChange();
        int removed = now.letPass(hours);
        keepChange();
        return removed;
    }

    public int hour() {
        return now.hours;
    }

    public int levelAfter(int hours) throws IllegalArgumentException {
        return now.foreseenLevel(hours);
    }

    public int hoursUntilAfloat(int ship) throws NoSuchElementException, IllegalStateException {
        return now.hoursToFloat(ship);
    }

    // ---- blocks and gaps

    public int placeBlock(int position)
            throws IllegalArgumentException, IllegalStateException, UnsupportedOperationException {
        startChange();
        int blocks = now.addBlock(position);
        keepChange();
        return blocks;
    }

    public int removeBlock(int position)
            throws IllegalArgumentException, NoSuchElementException, UnsupportedOperationException {
        startChange();
        int blocks = now.takeBlock(position);
        keepChange();
        return blocks;
    }

    public boolean hasBlock(int position) throws IllegalArgumentException {
        Blocks.checkPosition(position);
        return now.blocks.isAt(position);
    }

    public int blocksBeneath(int ship) throws NoSuchElementException {
        return now.blocks.beneathByMetres(now.ships.known(ship));
    }

    public int blocksBeneathByBlocks(int ship) throws NoSuchElementException {
        return now.blocks.beneathByBlocks(now.ships.known(ship));
    }

    public int shipAtPosition(int position)
            throws IllegalArgumentException, NoSuchElementException {
        Blocks.checkPosition(position);
        Ship ship = now.ships.overlapping(position, 1);
        if (ship == null) {
            throw new NoSuchElementException("no ship is there");
        }
        return ship.id;
    }

    public int firstGap(int length) throws IllegalArgumentException, NoSuchElementException {
        Fleet.checkGapLength(length);
        return foundGap(now.ships.gapByPositions(length));
    }

    public int firstGapByShips(int length)
            throws IllegalArgumentException, NoSuchElementException {
        Fleet.checkGapLength(length);
        return foundGap(now.ships.gapByShips(length));
    }

    public int freeMetres() {
        return Fleet.METRES - now.ships.takenMetres();
    }

    public int mostFitting() {
        return fitting.mostByTrying(now);
    }

    public int mostFittingByTable() {
        return fitting.mostByTable(now);
    }

    public int mostFittingMetres() {
        return fitting.mostMetres(now);
    }

    // ---- bills

    public int billOf(int ship) throws NoSuchElementException {
        return now.ships.known(ship).bill;
    }

    public int pay(int ship, int coins)
            throws NoSuchElementException, IllegalArgumentException, IllegalStateException {
        startChange();
        int rest = now.takeCoins(ship, coins);
        keepChange();
        return rest;
    }

    public int billTotal() {
        return now.ships.billSum();
    }

    public int billTotalByAccount() {
        return now.billsByAccount();
    }

    public int paidTotal() {
        return now.paid;
    }

    public int shipAtRank(int rank) throws IndexOutOfBoundsException {
        Ship ship = now.ships.ranked(rank);
        if (ship == null) {
            throw new IndexOutOfBoundsException("no such rank");
        }
        return ship.id;
    }

    // ---- commands

    public int append(char character) throws IllegalArgumentException, IllegalStateException {
        return commands.add(character);
    }

    public int run() throws IllegalArgumentException, IllegalStateException {
        int error = commands.findError();
        if (error != CommandText.NO_ERROR) {
            lastError = error;
            commands.clear();
            throw new IllegalArgumentException("not a command text");
        }
        startChange();
        int count = commands.commandsRead;
        int done = 0;
        commands.rewind();
        while (done < count && commands.readNext() && succeeds()) {
            done++;
        }
        commands.clear();
        if (done < count) {
            now.copyFrom(before);
            lastFailure = done;
            throw new IllegalStateException("a command failed");
        }
        keepChange();
        return count;
    }

    public int errorPosition() throws NoSuchElementException {
        if (lastError == NOTHING) {
            throw new NoSuchElementException("no error position was set");
        }
        return lastError;
    }

    public int failedCommand() throws NoSuchElementException {
        if (lastFailure == NOTHING) {
            throw new NoSuchElementException("no command has failed");
        }
        return lastFailure;
    }

    // ---- line, statistics, undo, snapshot

    public int describeDock() {
        line.setLength(0);
        for (int position = 0; position < Fleet.METRES; position++) {
            line.append(now.signAt(position));
        }
        return line.length();
    }

    public int describeBill(int ship) throws NoSuchElementException {
        Ship billed = now.ships.known(ship);
        line.setLength(0);
        line.append('#').append(billed.id);
        line.append(':').append(billed.bill);
        line.append('/').append(billed.dirt);
        if (billed.damage != 0) {
            line.append('!').append(billed.damage);
        }
        if (billed.isDocked()) {
            line.append(billed.floatsAt(now.waterLevel) ? '~' : '_');
        }
        return line.length();
    }

    public char lineAt(int index) throws IndexOutOfBoundsException {
        if (index < 0 || index >= line.length()) {
            throw new IndexOutOfBoundsException("no such index");
        }
        return line.charAt(index);
    }

    public double meanDirt() throws ArithmeticException {
        if (now.ships.count == 0) {
            throw new ArithmeticException("there are no ships");
        }
        return (double) now.ships.dirtSum() / (double) now.ships.count;
    }

    public float takenShare() {
        return (float) now.ships.takenMetres() / (float) Fleet.METRES;
    }

    public boolean isConsistent() {
        return Sea.agreesFrom(now.hours)
                && now.blocks.waysAgree(now.ships)
                && now.ships.gapsAgree()
                && fitting.mostByTrying(now) == fitting.mostByTable(now)
                && now.ships.billSum() == now.billsByAccount()
                && !now.ships.hasOverlap();
    }

    public int undo() throws IllegalStateException {
        if (history.count == 0) {
            throw new IllegalStateException("there is no change to undo");
        }
        now = history.pop(now);
        return history.count;
    }

    public int save() {
        snapshot.copyFrom(now);
        hasSnapshot = true;
        return now.ships.count;
    }

    public int restore() throws IllegalStateException {
        if (!hasSnapshot) {
            throw new IllegalStateException("there is no snapshot");
        }
        now.copyFrom(snapshot);
        history.forget();
        return now.ships.count;
    }

    // ---- what the face shares

    /** Copied ahead of each change, so that a change that throws leaves no trace to undo. */
    private void startChange() {
        before.copyFrom(now);
    }

    private void keepChange() {
        before = history.push(before);
    }

    private int letIn(int ship, int position) {
        refuseFor(now.entryRefusal(ship, position));
        return now.moor(ship, position);
    }

    private int letOut(int ship) {
        refuseFor(now.leaveRefusal(ship));
        return now.castOff(ship);
    }

    private void refuseFor(int reason) {
        if (reason != Dock.NO_REFUSAL) {
            keptReason = reason;
            throw new UnsupportedOperationException("refused");
        }
    }

    private static int foundGap(int position) {
        if (position == Fleet.NO_GAP) {
            throw new NoSuchElementException("there is no such gap");
        }
        return position;
    }

    /** Carries out the command that was read last; returns whether it did not throw. */
    private boolean succeeds() {
        try {
            carryOut(commands.form);
            return true;
        } catch (NoSuchElementException failure) {
            return false;
        } catch (IllegalArgumentException failure) {
            return false;
        } catch (IllegalStateException failure) {
            return false;
        } catch (UnsupportedOperationException failure) {
            return false;
        }
    }

    private void carryOut(Form form) {
        int first = commands.numbers[0];
        int second = commands.numbers[1];
        switch (form) {
            case SHIP:
                now.ships.register(first, second, commands.numbers[2]);
                break;
            case ENTER:
                letIn(first, second);
                break;
            case LEAVE:
                letOut(first);
                break;
            case CLEAN:
                now.switchCleaning(first, true);
                break;
            case STOP:
                now.switchCleaning(first, false);
                break;
            case OPEN:
                now.moveGate(true);
                break;
            case CLOSE:
                now.moveGate(false);
                break;
            case PUMP:
                now.changeRate(first);
                break;
            case PASS:
                now.letPass(first);
                break;
            case BLOCK:
                now.addBlock(first);
                break;
            case UNBLOCK:
                now.takeBlock(first);
                break;
            case PAY:
                now.takeCoins(first, second);
                break;
        }
    }

    /** The tides. */
    private static final class Sea {

        private static final int LAST_HOUR = 9999;
        private static final int LOWEST = 40;
        private static final int HIGHEST = 160;
        private static final int STEP = 20;
        private static final int HALF_TIDE = 6;
        private static final int TIDE = 12;
        private static final int CHECKED_HOURS = 24;

        static void checkHour(int hour) {
            if (hour < 0 || hour > LAST_HOUR) {
                throw new IllegalArgumentException("the hour is out of range");
            }
        }

        static int byFormula(int hour) {
            int k = hour % TIDE;
            return k <= HALF_TIDE ? LOWEST + STEP * k : HIGHEST - STEP * (k - HALF_TIDE);
        }

        static int byHours(int hour) {
            int level = LOWEST;
            for (int passed = 0; passed < hour; passed++) {
                level += stepAfter(passed);
            }
            return level;
        }

        private static int stepAfter(int hour) {
            return hour % TIDE < HALF_TIDE ? STEP : -STEP;
        }

        /** Goes on from the first hour instead of starting anew for each of the hours. */
        static boolean agreesFrom(int hour) {
            int level = byHours(hour);
            for (int later = 0; later <= CHECKED_HOURS; later++) {
                if (level != byFormula(hour + later)) {
                    return false;
                }
                level += stepAfter(hour + later);
            }
            return true;
        }
    }

    /** A ship, kept in a row that is used again for another ship when this one is gone. */
    private static final class Ship {

        private static final int OUTSIDE = -1;

        private int id;
        private int length;
        private int draught;
        private int dirt;
        private int damage;
        private int afloatHours;
        private int bill;
        private int position = OUTSIDE;
        private boolean cleaned;

        void begin(int newId, int newLength, int newDraught, int newDirt) {
            id = newId;
            length = newLength;
            draught = newDraught;
            dirt = newDirt;
            damage = 0;
            afloatHours = 0;
            bill = 0;
            position = OUTSIDE;
            cleaned = false;
        }

        void copyFrom(Ship other) {
            begin(other.id, other.length, other.draught, other.dirt);
            damage = other.damage;
            afloatHours = other.afloatHours;
            bill = other.bill;
            position = other.position;
            cleaned = other.cleaned;
        }

        boolean isDocked() {
            return position != OUTSIDE;
        }

        boolean floatsAt(int waterLevel) {
            return !isDocked() || waterLevel >= draught;
        }

        int end() {
            return position + length;
        }

        boolean overlaps(int from, int metres) {
            return position != OUTSIDE && position < from + metres && from < position + length;
        }

        /** A ship that comes or goes is not being cleaned. */
        void moveTo(int newPosition) {
            position = newPosition;
            cleaned = false;
        }

        boolean ranksBefore(Ship other) {
            if (bill != other.bill) {
                return bill > other.bill;
            }
            if (dirt != other.dirt) {
                return dirt > other.dirt;
            }
            return id < other.id;
        }
    }

    /** The ships in the ascending order of their ids, and the metres that they take. */
    private static final class Fleet {

        private static final int MOST_SHIPS = 8;
        private static final int METRES = 60;
        private static final int NO_GAP = -1;

        private final Ship[] rows = new Ship[MOST_SHIPS];
        private int count = 0;
        private int nextId = 0;

        Fleet() {
            for (int i = 0; i < rows.length; i++) {
                rows[i] = new Ship();
            }
        }

        void copyFrom(Fleet other) {
            for (int i = 0; i < other.count; i++) {
                rows[i].copyFrom(other.rows[i]);
            }
            count = other.count;
            nextId = other.nextId;
        }

        Ship known(int id) {
            for (int i = 0; i < count; i++) {
                if (rows[i].id == id) {
                    return rows[i];
                }
            }
            throw new NoSuchElementException("there is no such ship");
        }

        Ship docked(int id) {
            Ship ship = known(id);
            if (!ship.isDocked()) {
                throw new IllegalStateException("the ship is not in the dock");
            }
            return ship;
        }

        int register(int length, int draught, int dirt) {
            if (length < 5 || length > 30 || draught < 5 || draught > 80
                    || dirt < 0 || dirt > 99) {
                throw new IllegalArgumentException("a number is out of range");
            }
            if (count >= MOST_SHIPS) {
                throw new IllegalStateException("there are 8 ships");
            }
            int id = nextId;
            rows[count].begin(id, length, draught, dirt);
            count++;
            nextId++;
            return id;
        }

        int strike(int id) {
            Ship ship = known(id);
            if (ship.isDocked() || ship.bill != 0) {
                throw new IllegalStateException("the ship is in the dock or has a bill");
            }
            moveToEnd(ship);
            count--;
            return ship.dirt;
        }

        /** The row stays in the array behind the others, so that no row is made anew. */
        private void moveToEnd(Ship ship) {
            for (int i = 0; i + 1 < count; i++) {
                if (rows[i] == ship) {
                    rows[i] = rows[i + 1];
                    rows[i + 1] = ship;
                }
            }
        }

        int dockedCount() {
            int docked = 0;
            for (int i = 0; i < count; i++) {
                if (rows[i].isDocked()) {
                    docked++;
                }
            }
            return docked;
        }

        int takenMetres() {
            int taken = 0;
            for (int i = 0; i < count; i++) {
                if (rows[i].isDocked()) {
                    taken += rows[i].length;
                }
            }
            return taken;
        }

        int dirtSum() {
            int sum = 0;
            for (int i = 0; i < count; i++) {
                sum += rows[i].dirt;
            }
            return sum;
        }

        int billSum() {
            int sum = 0;
            for (int i = 0; i < count; i++) {
                sum += rows[i].bill;
            }
            return sum;
        }

        /** Returns the ship at this rank, or null if there is no such rank. */
        Ship ranked(int rank) {
            for (int i = 0; i < count; i++) {
                if (rankOf(rows[i]) == rank) {
                    return rows[i];
                }
            }
            return null;
        }

        private int rankOf(Ship ship) {
            int rank = 0;
            for (int i = 0; i < count; i++) {
                if (rows[i].ranksBefore(ship)) {
                    rank++;
                }
            }
            return rank;
        }

        /** Returns a ship that takes one of these metres, or null if there is none. */
        Ship overlapping(int from, int metres) {
            for (int i = 0; i < count; i++) {
                if (rows[i].overlaps(from, metres)) {
                    return rows[i];
                }
            }
            return null;
        }

        boolean hasOverlap() {
            for (int i = 0; i < count; i++) {
                for (int j = i + 1; j < count; j++) {
                    if (rows[i].isDocked() && rows[j].overlaps(rows[i].position, rows[i].length)) {
                        return true;
                    }
                }
            }
            return false;
        }

        static void checkGapLength(int length) {
            if (length < 1 || length > METRES) {
                throw new IllegalArgumentException("the length is out of range");
            }
        }

        int gapByPositions(int length) {
            for (int position = 0; position + length <= METRES; position++) {
                if (overlapping(position, length) == null) {
                    return position;
                }
            }
            return NO_GAP;
        }

        /** Each ship in the way is passed for good, so each of them is met at most once. */
        int gapByShips(int length) {
            int position = 0;
            for (int met = 0; met < count; met++) {
                Ship ship = overlapping(position, length);
                if (ship != null) {
                    position = ship.end();
                }
            }
            return position + length <= METRES ? position : NO_GAP;
        }

        boolean gapsAgree() {
            for (int length = 1; length <= METRES; length++) {
                if (gapByPositions(length) != gapByShips(length)) {
                    return false;
                }
            }
            return true;
        }
    }

    /** The positions of the blocks, in no order. */
    private static final class Blocks {

        private static final int MOST_BLOCKS = 20;
        private static final int NO_BLOCK = -1;

        private final int[] positions = new int[MOST_BLOCKS];
        private int count = 0;

        void copyFrom(Blocks other) {
            System.arraycopy(other.positions, 0, positions, 0, other.count);
            count = other.count;
        }

        static void checkPosition(int position) {
            if (position < 0 || position >= Fleet.METRES) {
                throw new IllegalArgumentException("the position is out of range");
            }
        }

        private int indexOf(int position) {
            for (int i = 0; i < count; i++) {
                if (positions[i] == position) {
                    return i;
                }
            }
            return NO_BLOCK;
        }

        boolean isAt(int position) {
            return indexOf(position) != NO_BLOCK;
        }

        boolean isFull() {
            return count >= MOST_BLOCKS;
        }

        void add(int position) {
            if (!isFull()) {
                positions[count] = position;
                count++;
            }
        }

        void remove(int position) {
            int index = indexOf(position);
            if (index != NO_BLOCK) {
                count--;
                positions[index] = positions[count];
            }
        }

        int beneathByMetres(Ship ship) {
            int found = 0;
            if (ship.isDocked()) {
                for (int metre = ship.position; metre < ship.end(); metre++) {
                    if (isAt(metre)) {
                        found++;
                    }
                }
            }
            return found;
        }

        int beneathByBlocks(Ship ship) {
            int found = 0;
            for (int i = 0; i < count; i++) {
                if (ship.overlaps(positions[i], 1)) {
                    found++;
                }
            }
            return found;
        }

        boolean waysAgree(Fleet ships) {
            for (int i = 0; i < ships.count; i++) {
                if (beneathByMetres(ships.rows[i]) != beneathByBlocks(ships.rows[i])) {
                    return false;
                }
            }
            return true;
        }
    }

    /** Everything that changes can change, and the rules by which it changes. */
    private static final class Dock {

        private static final int HIGHEST_LEVEL = 200;
        private static final int MOST_RATE = 30;
        private static final int GATE_DIFFERENCE = 20;
        private static final int WORKING_LEVEL = 30;
        private static final int MOST_HOURS = 48;
        private static final int FORESEEN_HOURS = 96;
        private static final int SPARE_DEPTH = 2;
        private static final int HOUR_COINS = 2;
        private static final int DIRT_COINS = 3;
        private static final int HOUR_DIRT = 3;
        private static final int SAFE_BLOCKS = 2;
        private static final int MOST_COINS = 999;

        private static final int NO_REFUSAL = 0;
        private static final int TOO_SHALLOW = 1;
        private static final int OVERLAP = 2;
        private static final int NOT_AFLOAT = 3;
        private static final int UNPAID = 4;

        private final Fleet ships = new Fleet();
        private final Blocks blocks = new Blocks();
        private int waterLevel = 100;
        private boolean gateOpen = true;
        private int pumpRate = 0;
        private int hours = 3;
        private int charged = 0;
        private int paid = 0;

        void copyFrom(Dock other) {
            ships.copyFrom(other.ships);
            blocks.copyFrom(other.blocks);
            waterLevel = other.waterLevel;
            gateOpen = other.gateOpen;
            pumpRate = other.pumpRate;
            hours = other.hours;
            charged = other.charged;
            paid = other.paid;
        }

        // entering, leaving and cleaning

        int entryRefusal(int id, int position) {
            Ship ship = ships.known(id);
            if (position < 0 || position > Fleet.METRES - ship.length) {
                throw new IllegalArgumentException("the ship would not lie within the dock");
            }
            if (ship.isDocked() || !gateOpen) {
                throw new IllegalStateException("the ship is in the dock or the gate is closed");
            }
            if (!canEnterNow(ship)) {
                return TOO_SHALLOW;
            }
            return ships.overlapping(position, ship.length) == null ? NO_REFUSAL : OVERLAP;
        }

        private boolean canEnterNow(Ship ship) {
            return waterLevel >= ship.draught + SPARE_DEPTH;
        }

        boolean isWaiting(Ship ship) {
            return !ship.isDocked() && canEnterNow(ship);
        }

        int moor(int id, int position) {
            ships.known(id).moveTo(position);
            return ships.dockedCount();
        }

        int leaveRefusal(int id) {
            Ship ship = ships.docked(id);
            if (!gateOpen) {
                throw new IllegalStateException("the gate is closed");
            }
            if (!ship.floatsAt(waterLevel)) {
                return NOT_AFLOAT;
            }
            return ship.bill == 0 ? NO_REFUSAL : UNPAID;
        }

        int castOff(int id) {
            ships.known(id).moveTo(Ship.OUTSIDE);
            return ships.dockedCount();
        }

        boolean switchCleaning(int id, boolean isCleaned) {
            Ship ship = ships.docked(id);
            boolean wasCleaned = ship.cleaned;
            ship.cleaned = isCleaned;
            return wasCleaned;
        }

        // water

        boolean moveGate(boolean isOpen) {
            int difference = Math.abs(waterLevel - Sea.byFormula(hours));
            if (isOpen && difference > GATE_DIFFERENCE) {
                throw new UnsupportedOperationException("the levels differ too much");
            }
            boolean wasOpen = gateOpen;
            gateOpen = isOpen;
            return wasOpen;
        }

        int changeRate(int rate) {
            if (rate < -MOST_RATE || rate > MOST_RATE) {
                throw new IllegalArgumentException("the rate is out of range");
            }
            int previous = pumpRate;
            pumpRate = rate;
            return previous;
        }

        int letPass(int count) {
            if (count < 1 || count > MOST_HOURS) {
                throw new IllegalArgumentException("the number of hours is out of range");
            }
            int removed = 0;
            for (int passed = 0; passed < count; passed++) {
                removed += passHour();
            }
            return removed;
        }

        private int passHour() {
            hours++;
            waterLevel = levelInHour(hours, waterLevel);
            int removed = 0;
            for (int i = 0; i < ships.count; i++) {
                if (ships.rows[i].isDocked()) {
                    removed += spendHour(ships.rows[i]);
                }
            }
            return removed;
        }

        private int levelInHour(int hour, int levelBefore) {
            if (!gateOpen) {
                return Math.max(0, Math.min(HIGHEST_LEVEL, levelBefore + pumpRate));
            }
            int difference = Sea.byFormula(hour) - levelBefore;
            return levelBefore + Math.max(-Sea.STEP, Math.min(Sea.STEP, difference));
        }

        private int spendHour(Ship ship) {
            if (ship.floatsAt(waterLevel)) {
                ship.afloatHours++;
                charge(ship, HOUR_COINS);
                return 0;
            }
            int beneath = blocks.beneathByBlocks(ship);
            if (beneath < SAFE_BLOCKS) {
                ship.damage++;
                charge(ship, HOUR_COINS);
                return 0;
            }
            int removed = ship.cleaned ? Math.min(HOUR_DIRT, ship.dirt) : 0;
            ship.dirt -= removed;
            charge(ship, HOUR_COINS + beneath + DIRT_COINS * removed);
            return removed;
        }

        int foreseenLevel(int count) {
            if (count < 0 || count > FORESEEN_HOURS) {
                throw new IllegalArgumentException("the number of hours is out of range");
            }
            int level = waterLevel;
            for (int passed = 1; passed <= count; passed++) {
                level = levelInHour(hours + passed, level);
            }
            return level;
        }

        int hoursToFloat(int id) {
            Ship ship = ships.known(id);
            int level = waterLevel;
            for (int passed = 0; passed <= FORESEEN_HOURS; passed++) {
                if (ship.floatsAt(level)) {
                    return passed;
                }
                level = levelInHour(hours + passed + 1, level);
            }
            throw new IllegalStateException("the ship would not be afloat in time");
        }

        // blocks

        int addBlock(int position) {
            Blocks.checkPosition(position);
            if (blocks.isFull() || blocks.isAt(position)) {
                throw new IllegalStateException("there are 20 blocks or a block is there");
            }
            checkWorkAt(position);
            blocks.add(position);
            return blocks.count;
        }

        int takeBlock(int position) {
            Blocks.checkPosition(position);
            if (!blocks.isAt(position)) {
                throw new NoSuchElementException("no block is there");
            }
            checkWorkAt(position);
            blocks.remove(position);
            return blocks.count;
        }

        private void checkWorkAt(int position) {
            if (waterLevel > WORKING_LEVEL || ships.overlapping(position, 1) != null) {
                throw new UnsupportedOperationException("the level is too high or a ship is there");
            }
        }

        char signAt(int position) {
            Ship ship = ships.overlapping(position, 1);
            if (ship != null) {
                return (char) ('0' + ship.id % 10);
            }
            return blocks.isAt(position) ? '^' : '.';
        }

        // bills

        private void charge(Ship ship, int coins) {
            ship.bill += coins;
            charged += coins;
        }

        int takeCoins(int id, int coins) {
            Ship ship = ships.known(id);
            if (coins < 1 || coins > MOST_COINS) {
                throw new IllegalArgumentException("the number of coins is out of range");
            }
            if (ship.bill < coins) {
                throw new IllegalStateException("the bill is less");
            }
            ship.bill -= coins;
            paid += coins;
            return ship.bill;
        }

        int billsByAccount() {
            return charged - paid;
        }
    }

    /** The states before the latest changes, in a ring of rows. */
    private static final class History {

        private static final int MOST_CHANGES = 8;

        private final Dock[] states = new Dock[MOST_CHANGES];
        private int next = 0;
        private int count = 0;

        History() {
            for (int i = 0; i < states.length; i++) {
                states[i] = new Dock();
            }
        }

        /** Keeps the state, and returns in exchange a row that is free for another one. */
        Dock push(Dock state) {
            Dock free = states[next];
            states[next] = state;
            next = (next + 1) % MOST_CHANGES;
            count = Math.min(MOST_CHANGES, count + 1);
            return free;
        }

        /** Returns the state that was kept last, and takes in exchange a row that is free now. */
        Dock pop(Dock free) {
            next = (next + MOST_CHANGES - 1) % MOST_CHANGES;
            count = Math.max(0, count - 1);
            Dock state = states[next];
            states[next] = free;
            return state;
        }

        void forget() {
            count = 0;
        }
    }

    /** Finds which of the waiting ships fit into the gaps of the dock together. */
    private static final class Fitting {

        private final int[] gaps = new int[Fleet.MOST_SHIPS + 1];
        private int gapCount = 0;
        private final int[] lengths = new int[Fleet.MOST_SHIPS];
        private int waiting = 0;
        private final int[] metresOf = new int[1 << Fleet.MOST_SHIPS];
        private final boolean[] fits = new boolean[1 << Fleet.MOST_SHIPS];

        int mostByTrying(Dock dock) {
            survey(dock);
            return mostFrom(this, 0);
        }

        int mostByTable(Dock dock) {
            survey(dock);
            fillTable();
            int most = 0;
            for (int set = 0; set < 1 << waiting; set++) {
                if (fits[set]) {
                    most = Math.max(most, Integer.bitCount(set));
                }
            }
            return most;
        }

        int mostMetres(Dock dock) {
            survey(dock);
            fillTable();
            int most = 0;
            for (int set = 0; set < 1 << waiting; set++) {
                if (fits[set]) {
                    most = Math.max(most, metresOf[set]);
                }
            }
            return most;
        }

        private void survey(Dock dock) {
            waiting = 0;
            for (int i = 0; i < dock.ships.count; i++) {
                if (dock.isWaiting(dock.ships.rows[i])) {
                    lengths[waiting] = dock.ships.rows[i].length;
                    waiting++;
                }
            }
            gapCount = 0;
            int free = 0;
            for (int position = 0; position < Fleet.METRES; position++) {
                if (dock.ships.overlapping(position, 1) == null) {
                    free++;
                } else {
                    addGap(free);
                    free = 0;
                }
            }
            addGap(free);
        }

        private void addGap(int metres) {
            if (metres > 0 && gapCount < gaps.length) {
                gaps[gapCount] = metres;
                gapCount++;
            }
        }

        /** Leaves the ship out, or puts it into each gap in turn, and goes on with the next. */
        private static int mostFrom(Fitting fitting, int ship) {
            if (ship >= fitting.waiting) {
                return 0;
            }
            int most = mostFrom(fitting, ship + 1);
            int length = fitting.lengths[ship];
            for (int gap = 0; gap < fitting.gapCount; gap++) {
                if (fitting.gaps[gap] >= length) {
                    fitting.gaps[gap] -= length;
                    most = Math.max(most, 1 + mostFrom(fitting, ship + 1));
                    fitting.gaps[gap] += length;
                }
            }
            return most;
        }

        private void fillTable() {
            for (int set = 0; set < 1 << waiting; set++) {
                metresOf[set] = sumOf(set);
                fits[set] = set == 0;
            }
            for (int gap = 0; gap < gapCount; gap++) {
                fillGap(gaps[gap]);
            }
        }

        private int sumOf(int set) {
            int sum = 0;
            for (int ship = 0; ship < waiting; ship++) {
                if ((set >> ship & 1) != 0) {
                    sum += lengths[ship];
                }
            }
            return sum;
        }

        /** Goes downwards, so that the smaller sets still tell what fits without this gap. */
        private void fillGap(int metres) {
            for (int set = (1 << waiting) - 1; set > 0; set--) {
                fits[set] = fits[set] || fitsWith(set, metres);
            }
        }

        /** Tries each part of the set in the gap, from the whole set down to single ships. */
        private boolean fitsWith(int set, int metres) {
            for (int part = set; part > 0; part = (part - 1) & set) {
                if (metresOf[part] <= metres && fits[set - part]) {
                    return true;
                }
            }
            return false;
        }
    }

    /** The forms of the commands: # stands for a number, - for a minus that may be left out. */
    private enum Form {
        SHIP("ship # # #"),
        ENTER("enter #@#"),
        LEAVE("leave #"),
        CLEAN("clean #"),
        STOP("stop #"),
        OPEN("open"),
        CLOSE("close"),
        PUMP("pump -#"),
        PASS("pass #"),
        BLOCK("block #"),
        UNBLOCK("unblock #"),
        PAY("pay #+#");

        private static final Form[] ALL = values();

        private final String pattern;

        Form(String pattern) {
            this.pattern = pattern;
        }
    }

    /** The command text, and what is read from it. */
    private static final class CommandText {

        private static final int NO_ERROR = -1;
        private static final int STUCK = -1;
        private static final int MOST_CHARACTERS = 60;
        private static final int MOST_NUMBERS = 3;
        private static final int MOST_DIGITS = 3;

        private final StringBuilder text = new StringBuilder();
        private int position = 0;
        private int furthest = 0;
        private int commandsRead = 0;
        private Form form = Form.OPEN;
        private final int[] numbers = new int[MOST_NUMBERS];
        private int numbersRead = 0;

        int add(char character) {
            if (character < 32 || character > 126) {
                throw new IllegalArgumentException("the character is out of range");
            }
            if (text.length() >= MOST_CHARACTERS) {
                throw new IllegalStateException("the command text is full");
            }
            text.append(character);
            return text.length();
        }

        void clear() {
            text.setLength(0);
        }

        void rewind() {
            position = 0;
            commandsRead = 0;
        }

        /** Reads the whole text; returns the error position, or NO_ERROR. */
        int findError() {
            rewind();
            for (int command = 0; command < MOST_CHARACTERS; command++) {
                if (!readNext()) {
                    return furthest;
                }
                if (position > text.length()) {
                    return NO_ERROR;
                }
            }
            return furthest;
        }

        /** Reads a command, and the separator or the end of the text behind it. */
        boolean readNext() {
            furthest = position;
            for (int i = 0; i < Form.ALL.length; i++) {
                if (matches(Form.ALL[i])) {
                    form = Form.ALL[i];
                    return passSeparator();
                }
            }
            return false;
        }

        private boolean passSeparator() {
            if (furthest < text.length() && text.charAt(furthest) != ';') {
                return false;
            }
            position = furthest + 1;
            commandsRead++;
            return true;
        }

        /** Moves furthest on to the first character that continues no form tried so far. */
        private boolean matches(Form tried) {
            int at = position;
            numbersRead = 0;
            for (int i = 0; i < tried.pattern.length(); i++) {
                int next = passSign(at, tried.pattern.charAt(i));
                if (next == STUCK) {
                    furthest = Math.max(furthest, at);
                    return false;
                }
                at = next;
            }
            furthest = at;
            return true;
        }

        private int passSign(int at, char sign) {
            if (sign == '#') {
                return passNumber(at);
            }
            if (isAt(at, sign)) {
                return at + 1;
            }
            return sign == '-' ? at : STUCK;
        }

        private int passNumber(int start) {
            int number = 0;
            int at = start;
            while (at < start + MOST_DIGITS && isDigitAt(at)) {
                number = number * 10 + (text.charAt(at) - '0');
                at++;
            }
            if (at == start) {
                return STUCK;
            }
            // Nothing but the sign of a pump's rate puts a minus ahead of a number.
            keepNumber(isAt(start - 1, '-') ? -number : number);
            return at;
        }

        private void keepNumber(int number) {
            if (numbersRead < MOST_NUMBERS) {
                numbers[numbersRead] = number;
                numbersRead++;
            }
        }

        private boolean isAt(int index, char sign) {
            return index >= 0 && index < text.length() && text.charAt(index) == sign;
        }

        private boolean isDigitAt(int index) {
            return index >= 0 && index < text.length()
                    && text.charAt(index) >= '0' && text.charAt(index) <= '9';
        }
    }
}
