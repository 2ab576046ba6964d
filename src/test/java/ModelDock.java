import java.util.ArrayList;
import java.util.HashSet;
import java.util.List;
import java.util.NoSuchElementException;
import java.util.Set;
import java.util.TreeMap;
import java.util.TreeSet;
import java.util.regex.Matcher;
import java.util.regex.Pattern;

/** A second, wasteful reading of the document, to compare FloatingDock with. */
final class ModelDock {

    private static final Pattern COMMAND = Pattern.compile(
            "(ship|enter|leave|clean|stop|open|close|pump|pass|block|unblock|pay)"
            + "(?: (-?\\d+)(?:[ @+](\\d+))?(?: (\\d+))?)?");
    private static final String NUMBER = "[0-9]{1,3}";
    private static final String ONE = "(?:ship N N N|enter N@N|leave N|clean N|stop N|open|close"
            .replace("N", NUMBER)
            + "|pump -?N|pass N|block N|unblock N|pay N\\+N)".replace("N", NUMBER);
    private static final Pattern TEXT = Pattern.compile(ONE + "(?:;" + ONE + ")*");

    private static final class Ship {
        int length;
        int draught;
        int dirt;
        int damage;
        int afloat;
        int bill;
        int position = -1;
        boolean cleaned;

        Ship copy() {
            Ship copy = new Ship();
            copy.length = length;
            copy.draught = draught;
            copy.dirt = dirt;
            copy.damage = damage;
            copy.afloat = afloat;
            copy.bill = bill;
            copy.position = position;
            copy.cleaned = cleaned;
            return copy;
        }
    }

    private static final class State {
        final TreeMap<Integer, Ship> ships = new TreeMap<>();
        final Set<Integer> blocks = new TreeSet<>();
        int nextId;
        int level = 100;
        boolean open = true;
        int rate;
        int hour = 3;
        int charged;
        int paid;

        State copy() {
            State copy = new State();
            ships.forEach((id, ship) -> copy.ships.put(id, ship.copy()));
            copy.blocks.addAll(blocks);
            copy.nextId = nextId;
            copy.level = level;
            copy.open = open;
            copy.rate = rate;
            copy.hour = hour;
            copy.charged = charged;
            copy.paid = paid;
            return copy;
        }
    }

    private State s = new State();
    private final List<State> earlier = new ArrayList<>();
    private State saved;
    private String text = "";
    private String line = "";
    private int reason;
    private Integer error;
    private Integer failed;
    private boolean running;

    private void change(State old) {
        if (!running) {
            earlier.add(old);
            if (earlier.size() > 8) {
                earlier.remove(0);
            }
        }
    }

    private static void argument(boolean isGood) {
        if (!isGood) {
            throw new IllegalArgumentException();
        }
    }

    private static void state(boolean isGood) {
        if (!isGood) {
            throw new IllegalStateException();
        }
    }

    private static void exists(boolean isGood) {
        if (!isGood) {
            throw new NoSuchElementException();
        }
    }

    private static void index(boolean isGood) {
        if (!isGood) {
            throw new IndexOutOfBoundsException();
        }
    }

    private static void allowed(boolean isGood) {
        if (!isGood) {
            throw new UnsupportedOperationException();
        }
    }

    private void refuse(boolean applies, int why) {
        if (applies) {
            reason = why;
            throw new UnsupportedOperationException();
        }
    }

    private Ship ship(int id) {
        exists(s.ships.containsKey(id));
        return s.ships.get(id);
    }

    /** The ship over each metre of the dock, or -1. */
    private int[] metres() {
        int[] metres = new int[60];
        java.util.Arrays.fill(metres, -1);
        s.ships.forEach((id, ship) -> {
            for (int m = 0; ship.position >= 0 && m < ship.length; m++) {
                metres[ship.position + m] = id;
            }
        });
        return metres;
    }

    private boolean isFree(int position, int length) {
        if (position + length > 60) {
            return false;
        }
        int[] metres = metres();
        for (int m = position; m < position + length; m++) {
            if (metres[m] != -1) {
                return false;
            }
        }
        return true;
    }

    private int inDock() {
        return (int) s.ships.values().stream().filter(ship -> ship.position >= 0).count();
    }

    int addShip(int length, int draught, int dirt) {
        argument(length >= 5 && length <= 30);
        argument(draught >= 5 && draught <= 80);
        argument(dirt >= 0 && dirt <= 99);
        state(s.ships.size() < 8);
        change(s.copy());
        Ship ship = new Ship();
        ship.length = length;
        ship.draught = draught;
        ship.dirt = dirt;
        s.ships.put(s.nextId, ship);
        return s.nextId++;
    }

    int removeShip(int id) {
        Ship ship = ship(id);
        state(ship.position < 0 && ship.bill == 0);
        change(s.copy());
        s.ships.remove(id);
        return ship.dirt;
    }

    int enter(int id, int position) {
        Ship ship = ship(id);
        argument(position >= 0 && (long) position + ship.length - 1 <= 59);
        state(ship.position < 0 && s.open);
        refuse(s.level < ship.draught + 2, 1);
        refuse(!isFree(position, ship.length), 2);
        change(s.copy());
        ship.position = position;
        ship.cleaned = false;
        return inDock();
    }

    int leave(int id) {
        Ship ship = ship(id);
        state(ship.position >= 0 && s.open);
        refuse(s.level < ship.draught, 3);
        refuse(ship.bill != 0, 4);
        change(s.copy());
        ship.position = -1;
        ship.cleaned = false;
        return inDock();
    }

    boolean setCleaning(int id, boolean isCleaned) {
        Ship ship = ship(id);
        state(ship.position >= 0);
        change(s.copy());
        boolean was = ship.cleaned;
        ship.cleaned = isCleaned;
        return was;
    }

    int shipCount() {
        return s.ships.size();
    }

    int shipAt(int place) {
        index(place >= 0 && place < s.ships.size());
        return new ArrayList<>(s.ships.keySet()).get(place);
    }

    boolean isInDock(int id) {
        return ship(id).position >= 0;
    }

    int positionOf(int id) {
        Ship ship = ship(id);
        state(ship.position >= 0);
        return ship.position;
    }

    int dirtOf(int id) {
        return ship(id).dirt;
    }

    int damageOf(int id) {
        return ship(id).damage;
    }

    int hoursAfloat(int id) {
        return ship(id).afloat;
    }

    boolean isAfloat(int id) {
        Ship ship = ship(id);
        return ship.position < 0 || s.level >= ship.draught;
    }

    int refusalReason() {
        exists(reason != 0);
        return reason;
    }

    private static int sea(int hour) {
        return new int[] {40, 60, 80, 100, 120, 140, 160, 140, 120, 100, 80, 60}[hour % 12];
    }

    boolean setGate(boolean isOpen) {
        allowed(!isOpen || Math.abs(s.level - sea(s.hour)) <= 20);
        change(s.copy());
        boolean was = s.open;
        s.open = isOpen;
        return was;
    }

    boolean isGateOpen() {
        return s.open;
    }

    int setPump(int rate) {
        argument(rate >= -30 && rate <= 30);
        change(s.copy());
        int was = s.rate;
        s.rate = rate;
        return was;
    }

    int level() {
        return s.level;
    }

    int seaLevel(int hour) {
        argument(hour >= 0 && hour <= 9999);
        return sea(hour);
    }

    private void water() {
        s.hour++;
        if (s.open) {
            int sea = sea(s.hour);
            for (int i = 0; i < 20 && s.level != sea; i++) {
                s.level += s.level < sea ? 1 : -1;
            }
        } else {
            s.level += s.rate;
            s.level = s.level < 0 ? 0 : s.level > 200 ? 200 : s.level;
        }
    }

    private void charge(Ship ship, int coins) {
        ship.bill += coins;
        s.charged += coins;
    }

    int pass(int hours) {
        argument(hours >= 1 && hours <= 48);
        change(s.copy());
        int removed = 0;
        for (int i = 0; i < hours; i++) {
            water();
            for (int id : s.ships.keySet()) {
                Ship ship = ship(id);
                if (ship.position < 0) {
                    continue;
                }
                charge(ship, 2);
                int blocks = blocksBeneath(id);
                if (s.level >= ship.draught) {
                    ship.afloat++;
                } else if (blocks < 2) {
                    ship.damage++;
                } else {
                    charge(ship, blocks);
                    for (int unit = 0; unit < 3 && ship.cleaned && ship.dirt > 0; unit++) {
                        ship.dirt--;
                        removed++;
                        charge(ship, 3);
                    }
                }
            }
        }
        return removed;
    }

    int hour() {
        return s.hour;
    }

    int levelAfter(int hours) {
        argument(hours >= 0 && hours <= 96);
        State kept = s;
        s = s.copy();
        for (int i = 0; i < hours; i++) {
            water();
        }
        int level = s.level;
        s = kept;
        return level;
    }

    int hoursUntilAfloat(int id) {
        Ship ship = ship(id);
        if (ship.position < 0) {
            return 0;
        }
        for (int hours = 0; hours <= 96; hours++) {
            if (levelAfter(hours) >= ship.draught) {
                return hours;
            }
        }
        throw new IllegalStateException();
    }

    int placeBlock(int position) {
        argument(position >= 0 && position <= 59);
        state(s.blocks.size() < 20 && !s.blocks.contains(position));
        allowed(s.level <= 30 && isFree(position, 1));
        change(s.copy());
        s.blocks.add(position);
        return s.blocks.size();
    }

    int removeBlock(int position) {
        argument(position >= 0 && position <= 59);
        exists(s.blocks.contains(position));
        allowed(s.level <= 30 && isFree(position, 1));
        change(s.copy());
        s.blocks.remove(position);
        return s.blocks.size();
    }

    boolean hasBlock(int position) {
        argument(position >= 0 && position <= 59);
        return s.blocks.contains(position);
    }

    int blocksBeneath(int id) {
        Ship ship = ship(id);
        int[] metres = metres();
        return ship.position < 0 ? 0
                : (int) s.blocks.stream().filter(block -> metres[block] == id).count();
    }

    int shipAtPosition(int position) {
        argument(position >= 0 && position <= 59);
        int id = metres()[position];
        exists(id >= 0);
        return id;
    }

    int firstGap(int length) {
        argument(length >= 1 && length <= 60);
        for (int position = 0; position < 60; position++) {
            if (isFree(position, length)) {
                return position;
            }
        }
        throw new NoSuchElementException();
    }

    int freeMetres() {
        return (int) java.util.Arrays.stream(metres()).filter(id -> id == -1).count();
    }

    /** The sets of waiting ships that fit, found by laying them out from metre to metre. */
    private Set<Set<Integer>> fittingSets() {
        List<Set<Set<Integer>>> upTo = new ArrayList<>();
        for (int metre = 0; metre <= 60; metre++) {
            upTo.add(new HashSet<>());
        }
        upTo.get(0).add(Set.of());
        for (int metre = 0; metre < 60; metre++) {
            for (Set<Integer> set : upTo.get(metre)) {
                upTo.get(metre + 1).add(set);
                for (int id : s.ships.keySet()) {
                    Ship ship = ship(id);
                    if (ship.position < 0 && ship.draught <= s.level - 2 && !set.contains(id)
                            && isFree(metre, ship.length)) {
                        Set<Integer> more = new TreeSet<>(set);
                        more.add(id);
                        upTo.get(metre + ship.length).add(more);
                    }
                }
            }
        }
        return upTo.get(60);
    }

    int mostFitting() {
        return fittingSets().stream().mapToInt(Set::size).max().orElse(0);
    }

    int mostFittingMetres() {
        return fittingSets().stream()
                .mapToInt(set -> set.stream().mapToInt(id -> ship(id).length).sum())
                .max().orElse(0);
    }

    int billOf(int id) {
        return ship(id).bill;
    }

    int pay(int id, int coins) {
        Ship ship = ship(id);
        argument(coins >= 1 && coins <= 999);
        state(ship.bill >= coins);
        change(s.copy());
        ship.bill -= coins;
        s.paid += coins;
        return ship.bill;
    }

    int billTotal() {
        return s.charged - s.paid;
    }

    int paidTotal() {
        return s.paid;
    }

    int shipAtRank(int rank) {
        index(rank >= 0 && rank < s.ships.size());
        List<Integer> ids = new ArrayList<>(s.ships.keySet());
        ids.sort((a, b) -> ship(a).bill != ship(b).bill ? ship(b).bill - ship(a).bill
                : ship(b).dirt - ship(a).dirt);
        return ids.get(rank);
    }

    int append(char character) {
        argument(character >= 32 && character <= 126);
        state(text.length() < 60);
        text += character;
        return text.length();
    }

    private static boolean canBecomeText(String start) {
        Matcher matcher = TEXT.matcher(start);
        return matcher.matches() || matcher.hitEnd();
    }

    static int errorOf(String text) {
        if (TEXT.matcher(text).matches()) {
            return -1;
        }
        for (int end = 1; end <= text.length(); end++) {
            if (!canBecomeText(text.substring(0, end))) {
                return end - 1;
            }
        }
        return text.length();
    }

    int run() {
        String whole = text;
        text = "";
        if (errorOf(whole) >= 0) {
            error = errorOf(whole);
            throw new IllegalArgumentException();
        }
        State old = s;
        s = s.copy();
        running = true;
        int done = 0;
        try {
            for (String command : whole.split(";")) {
                carryOut(command);
                done++;
            }
        } catch (RuntimeException thrown) {
            s = old;
            failed = done;
            throw new IllegalStateException();
        } finally {
            running = false;
        }
        change(old);
        return done;
    }

    private void carryOut(String command) {
        Matcher parts = COMMAND.matcher(command);
        if (!parts.matches()) {
            throw new AssertionError(command);
        }
        int[] n = new int[3];
        for (int i = 0; i < 3; i++) {
            n[i] = parts.group(i + 2) == null ? 0 : Integer.parseInt(parts.group(i + 2));
        }
        switch (parts.group(1)) {
            case "ship" -> addShip(n[0], n[1], n[2]);
            case "enter" -> enter(n[0], n[1]);
            case "leave" -> leave(n[0]);
            case "clean" -> setCleaning(n[0], true);
            case "stop" -> setCleaning(n[0], false);
            case "open" -> setGate(true);
            case "close" -> setGate(false);
            case "pump" -> setPump(n[0]);
            case "pass" -> pass(n[0]);
            case "block" -> placeBlock(n[0]);
            case "unblock" -> removeBlock(n[0]);
            case "pay" -> pay(n[0], n[1]);
            default -> throw new AssertionError(command);
        }
    }

    int errorPosition() {
        exists(error != null);
        return error;
    }

    int failedCommand() {
        exists(failed != null);
        return failed;
    }

    int describeDock() {
        int[] metres = metres();
        line = "";
        for (int m = 0; m < 60; m++) {
            String id = Integer.toString(metres[m]);
            line += metres[m] >= 0 ? id.substring(id.length() - 1)
                    : s.blocks.contains(m) ? "^" : ".";
        }
        return 60;
    }

    int describeBill(int id) {
        Ship ship = ship(id);
        line = "#" + id + ":" + ship.bill + "/" + ship.dirt
                + (ship.damage == 0 ? "" : "!" + ship.damage)
                + (ship.position < 0 ? "" : s.level >= ship.draught ? "~" : "_");
        return line.length();
    }

    char lineAt(int at) {
        index(at >= 0 && at < line.length());
        return line.charAt(at);
    }

    double meanDirt() {
        if (s.ships.isEmpty()) {
            throw new ArithmeticException();
        }
        return s.ships.values().stream().mapToInt(ship -> ship.dirt).sum()
                / (double) s.ships.size();
    }

    float takenShare() {
        return (60 - freeMetres()) / 60f;
    }

    int undo() {
        state(!earlier.isEmpty());
        s = earlier.remove(earlier.size() - 1);
        return earlier.size();
    }

    int save() {
        saved = s.copy();
        return s.ships.size();
    }

    int restore() {
        state(saved != null);
        s = saved.copy();
        earlier.clear();
        return s.ships.size();
    }
}
