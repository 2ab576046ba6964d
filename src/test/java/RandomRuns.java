import java.util.ArrayList;
import java.util.List;

/** Long runs of calls with fixed seeds, each answer compared with that of ModelDock. */
final class RandomRuns {

    private static final int RUNS = 400;
    private static final int CALLS = 512;

    private interface Real {
        Object on(FloatingDock dock);
    }

    private interface Modelled {
        Object on(ModelDock dock);
    }

    private FloatingDock dock = new FloatingDock();
    private ModelDock model = new ModelDock();
    private long seed;
    private String name;
    private List<String> told = new ArrayList<>();
    private boolean isWrong;

    private RandomRuns(int run) {
        name = "random run " + run;
        seed = run * 7919L + 1;
    }

    static void runAll() {
        for (int run = 0; run < RUNS; run++) {
            new RandomRuns(run).go();
        }
    }

    private int below(int bound) {
        seed = seed * 6364136223846793005L + 1442695040888963407L;
        return (int) ((seed >>> 33) % bound);
    }

    private int from(int low, int high) {
        return low + below(high - low + 1);
    }

    private int near(int low, int high) {
        int kind = below(20);
        if (kind == 0) {
            return low - 1;
        }
        if (kind == 1) {
            return high + 1;
        }
        if (kind == 2) {
            return below(2) == 0 ? low : high;
        }
        if (kind == 3) {
            return below(2) == 0 ? Integer.MAX_VALUE : Integer.MIN_VALUE;
        }
        return from(low, high);
    }

    private int ship() {
        int count = model.shipCount();
        if (count == 0 || below(15) == 0) {
            return from(-1, 20);
        }
        return model.shipAt(below(count));
    }

    /** The seeded mistakes of a program show in few calls; one message a run is enough. */
    private void same(String call, Real real, Modelled modelled) {
        told.add(call);
        if (isWrong) {
            return;
        }
        Object due = Check.outcome(() -> modelled.on(model));
        Object got = Check.outcome(() -> real.on(dock));
        isWrong = !due.equals(got);
        Check.that(name + ", call " + told.size() + ", " + call, got, due);
    }

    private void go() {
        while (told.size() < CALLS && !isWrong) {
            int kind = below(100);
            if (kind < 60) {
                changeSomething();
            } else if (kind < 68) {
                workForADay();
            } else if (kind < 88) {
                askSomething();
            } else if (kind < 95) {
                giveCommands();
            } else {
                goBack();
            }
        }
    }

    /** Chance alone hardly ever empties the dock, lays blocks and lets ships rest on them. */
    private void workForADay() {
        pumpAndPass(-30);
        for (int i = below(3); i > 0; i--) {
            placeBlocks();
            removeBlock();
        }
        openAtTheTide();
        for (int i = below(6); i >= 0; i--) {
            addShip();
            enter();
        }
        for (int i = below(6); i >= 0; i--) {
            clean();
        }
        pumpAndPass(-30);
        passHours(from(1, 20));
        askSomething();
        for (int i = below(6); i >= 0; i--) {
            pay();
        }
        openAtTheTide();
        for (int i = below(4); i >= 0; i--) {
            pay();
            leave();
        }
    }

    private void openAtTheTide() {
        pumpAndPass(30);
        setPump(0);
        for (int hour = 0; hour < 12 && !model.isGateOpen() && !isWrong; hour++) {
            passHours(1);
            moveGate(true);
        }
    }

    private void pumpAndPass(int rate) {
        moveGate(false);
        setPump(rate);
        passHours(from(3, 5));
    }

    private void setPump(int rate) {
        same("setPump " + rate, d -> d.setPump(rate), m -> m.setPump(rate));
    }

    private void passHours(int hours) {
        same("pass " + hours, d -> d.pass(hours), m -> m.pass(hours));
    }

    private void moveGate(boolean isOpen) {
        same("setGate " + isOpen, d -> d.setGate(isOpen), m -> m.setGate(isOpen));
    }

    private void clean() {
        int id = ship();
        boolean on = below(5) != 0;
        same("setCleaning " + id, d -> d.setCleaning(id, on), m -> m.setCleaning(id, on));
    }

    private void changeSomething() {
        switch (below(16)) {
            case 0, 1, 15 -> addShip();
            case 2 -> {
                int id = ship();
                same("removeShip " + id, d -> d.removeShip(id), m -> m.removeShip(id));
            }
            case 3, 4, 5 -> enter();
            case 6 -> leave();
            case 7 -> clean();
            case 8 -> moveGate(below(4) != 0);
            case 9 -> setPump(below(3) == 0 ? near(-30, 30) : below(2) == 0 ? -30 : 30);
            case 10 -> passHours(below(6) == 0 ? near(1, 48) : from(1, 4));
            case 11, 12 -> placeBlocks();
            case 13 -> removeBlock();
            default -> pay();
        }
    }

    private void addShip() {
        int length = below(3) == 0 ? near(5, 30) : from(5, 14);
        int draught = below(3) == 0 ? near(5, 80) : from(20, 60);
        int dirt = near(0, 99);
        same("addShip " + length + " " + draught + " " + dirt,
                d -> d.addShip(length, draught, dirt), m -> m.addShip(length, draught, dirt));
    }

    private void enter() {
        int id = ship();
        int length = from(5, 20);
        Object gap = Check.outcome(() -> model.firstGap(length));
        int at = gap instanceof Integer && below(2) == 0 ? (Integer) gap : near(0, 50);
        same("enter " + id + " " + at, d -> d.enter(id, at), m -> m.enter(id, at));
    }

    private void leave() {
        int id = ship();
        same("leave " + id, d -> d.leave(id), m -> m.leave(id));
    }

    private void placeBlocks() {
        for (int i = below(8); i >= 0; i--) {
            int at = near(0, 59);
            same("placeBlock " + at, d -> d.placeBlock(at), m -> m.placeBlock(at));
        }
    }

    private void removeBlock() {
        int at = near(0, 59);
        for (int i = below(40); i > 0 && at >= 0 && at < 59 && !model.hasBlock(at); i--) {
            at++;
        }
        int chosen = at;
        same("removeBlock " + at, d -> d.removeBlock(chosen), m -> m.removeBlock(chosen));
    }

    private void pay() {
        int id = ship();
        Object bill = Check.outcome(() -> model.billOf(id));
        int coins = bill instanceof Integer && below(3) != 0
                ? Math.min(999, (Integer) bill) : near(1, 999);
        same("pay " + id + " " + coins, d -> d.pay(id, coins), m -> m.pay(id, coins));
    }

    private void askSomething() {
        switch (below(7)) {
            case 0, 1 -> askShip();
            case 2 -> askWater();
            case 3 -> askBlocks();
            case 4 -> askGaps();
            case 5 -> askBills();
            default -> askLine();
        }
    }

    private void askShip() {
        int id = ship();
        same("isInDock " + id, d -> d.isInDock(id), m -> m.isInDock(id));
        same("positionOf " + id, d -> d.positionOf(id), m -> m.positionOf(id));
        same("dirtOf " + id, d -> d.dirtOf(id), m -> m.dirtOf(id));
        same("damageOf " + id, d -> d.damageOf(id), m -> m.damageOf(id));
        same("hoursAfloat " + id, d -> d.hoursAfloat(id), m -> m.hoursAfloat(id));
        same("isAfloat " + id, d -> d.isAfloat(id), m -> m.isAfloat(id));
        same("billOf " + id, d -> d.billOf(id), m -> m.billOf(id));
        same("refusalReason", d -> d.refusalReason(), m -> m.refusalReason());
        int place = near(0, 7);
        same("shipAt " + place, d -> d.shipAt(place), m -> m.shipAt(place));
    }

    private void askWater() {
        int hour = near(0, 9999);
        int hours = near(0, 96);
        int id = ship();
        same("isGateOpen", d -> d.isGateOpen(), m -> m.isGateOpen());
        same("level", d -> d.level(), m -> m.level());
        same("hour", d -> d.hour(), m -> m.hour());
        same("seaLevel " + hour, d -> d.seaLevel(hour), m -> m.seaLevel(hour));
        same("seaLevelByHours " + hour, d -> d.seaLevelByHours(hour), m -> m.seaLevel(hour));
        same("levelAfter " + hours, d -> d.levelAfter(hours), m -> m.levelAfter(hours));
        same("hoursUntilAfloat " + id, d -> d.hoursUntilAfloat(id), m -> m.hoursUntilAfloat(id));
    }

    private void askBlocks() {
        int at = near(0, 59);
        int id = ship();
        same("hasBlock " + at, d -> d.hasBlock(at), m -> m.hasBlock(at));
        same("blocksBeneath " + id, d -> d.blocksBeneath(id), m -> m.blocksBeneath(id));
        same("blocksBeneathByBlocks " + id,
                d -> d.blocksBeneathByBlocks(id), m -> m.blocksBeneath(id));
        same("shipAtPosition " + at, d -> d.shipAtPosition(at), m -> m.shipAtPosition(at));
    }

    private void askGaps() {
        int length = below(2) == 0 ? near(1, 60) : from(1, 20);
        same("firstGap " + length, d -> d.firstGap(length), m -> m.firstGap(length));
        same("firstGapByShips " + length, d -> d.firstGapByShips(length), m -> m.firstGap(length));
        same("freeMetres", d -> d.freeMetres(), m -> m.freeMetres());
        same("mostFitting", d -> d.mostFitting(), m -> m.mostFitting());
        same("mostFittingByTable", d -> d.mostFittingByTable(), m -> m.mostFitting());
        same("mostFittingMetres", d -> d.mostFittingMetres(), m -> m.mostFittingMetres());
        same("takenShare", d -> d.takenShare(), m -> m.takenShare());
        same("isConsistent", d -> d.isConsistent(), m -> true);
    }

    private void askBills() {
        same("billTotal", d -> d.billTotal(), m -> m.billTotal());
        same("billTotalByAccount", d -> d.billTotalByAccount(), m -> m.billTotal());
        same("paidTotal", d -> d.paidTotal(), m -> m.paidTotal());
        same("meanDirt", d -> d.meanDirt(), m -> m.meanDirt());
        for (int i = -1; i <= 8; i++) {
            int rank = i;
            same("shipAtRank " + rank, d -> d.shipAtRank(rank), m -> m.shipAtRank(rank));
        }
    }

    private void askLine() {
        if (below(2) == 0) {
            same("describeDock", d -> d.describeDock(), m -> m.describeDock());
            int start = below(50);
            for (int i = start; i < start + 11; i++) {
                int at = i;
                same("lineAt " + at, d -> d.lineAt(at), m -> m.lineAt(at));
            }
        } else {
            int id = ship();
            same("describeBill " + id, d -> d.describeBill(id), m -> m.describeBill(id));
            for (int i = -1; i < 15; i++) {
                int at = i;
                same("lineAt " + at, d -> d.lineAt(at), m -> m.lineAt(at));
            }
        }
    }

    private void giveCommands() {
        StringBuilder text = new StringBuilder(command());
        for (int more = below(5); more > 0; more--) {
            text.append(';').append(command());
        }
        if (below(4) == 0 && text.length() > 0) {
            int at = below(text.length());
            switch (below(3)) {
                case 0 -> text.setCharAt(at, "abcdelnopstu 0123456789@+-;~".charAt(below(28)));
                case 1 -> text.deleteCharAt(at);
                default -> text.setLength(at);
            }
        }
        for (int i = 0; i < text.length(); i++) {
            char sign = text.charAt(i);
            same("append " + sign, d -> d.append(sign), m -> m.append(sign));
        }
        same("run", d -> d.run(), m -> m.run());
        same("errorPosition", d -> d.errorPosition(), m -> m.errorPosition());
        same("failedCommand", d -> d.failedCommand(), m -> m.failedCommand());
        same("refusalReason", d -> d.refusalReason(), m -> m.refusalReason());
    }

    private String command() {
        return switch (below(13)) {
            case 0 -> "ship " + from(5, 20) + " " + from(5, 80) + " " + from(0, 99);
            case 1 -> "enter " + Math.max(0, ship()) + "@" + from(0, 50);
            case 2 -> "leave " + Math.max(0, ship());
            case 3 -> "clean " + Math.max(0, ship());
            case 4 -> "stop " + Math.max(0, ship());
            case 5 -> "open";
            case 6 -> "close";
            case 7 -> "pump " + from(-31, 31);
            case 8 -> "pass " + from(0, 6);
            case 9 -> "block " + from(0, 60);
            case 10 -> "unblock " + from(0, 60);
            case 11 -> "pay " + Math.max(0, ship()) + "+" + from(0, 40);
            default -> "pass 00" + from(1, 3);
        };
    }

    private void goBack() {
        switch (below(8)) {
            case 0 -> same("save", d -> d.save(), m -> m.save());
            case 1 -> same("restore", d -> d.restore(), m -> m.restore());
            default -> {
                for (int i = below(8) == 0 ? 9 : below(3); i >= 0; i--) {
                    same("undo", d -> d.undo(), m -> m.undo());
                }
            }
        }
    }
}
