/** Long mixed runs of calls, each answer compared with a model that follows the document's terms word by word. */
public final class ModelTest {
    private static final int RUNS = 45;
    private static final int CALLS = 512;
    private static final int[] ODD_NUMBERS = {-1, 216, -216, 217, Integer.MIN_VALUE, Integer.MAX_VALUE};

    private static long seed = 1;
    private static int wrong = 0;

    public static void main(String[] args) {
        for (int run = 0; run < RUNS && wrong < 20; run++) {
            LightFlow block = new LightFlow();
            Model model = new Model();
            for (int call = 0; call < CALLS && wrong < 20; call++) {
                oneCall(run, block, model);
            }
        }
        System.out.println(wrong == 0 ? "the model agrees" : "the model does not agree");
        if (wrong != 0) {
            System.exit(1);
        }
    }

    /** Fixed numbers that look mixed: the same in every run of the test. */
    private static int below(int bound) {
        seed = seed * 6364136223846793005L + 1442695040888963407L;
        return (int) ((seed >>> 33) % bound);
    }

    private static int someCell() {
        return below(25) == 0 ? ODD_NUMBERS[below(ODD_NUMBERS.length)] : below(216);
    }

    private static int someLevel() {
        return below(25) == 0 ? ODD_NUMBERS[below(ODD_NUMBERS.length)] : below(15) - 1;
    }

    private static int someFlag() {
        return below(3) - 1;
    }

    /** Mostly a cell that makes a good box with low. */
    private static int someHigh(int low) {
        if (low < 0 || low > 215 || below(8) == 0) {
            return someCell();
        }
        int x = low % 6 + below(6 - low % 6);
        int y = low / 6 % 6 + below(6 - low / 6 % 6);
        int z = low / 36 + below(6 - low / 36);
        return 36 * z + 6 * y + x;
    }

    private static void oneCall(int run, LightFlow block, Model model) {
        // Every third run changes single cells only, the others boxes too, so
        // that both scattered and walled blocks come up.
        int kind = below(run % 3 == 0 ? 24 : 30);
        int cell = someCell();
        int high = someHigh(cell);
        int level = someLevel();
        int flag = someFlag();
        String told = " with " + cell + ", " + high + ", " + level + ", " + flag + " in run " + run;
        switch (kind) {
            case 0 -> same("isSolid" + told, block.isSolid(cell), model.isSolid(cell));
            case 1, 2 -> same("lamplight" + told, block.lamplight(cell), model.lamplight(cell));
            case 3, 4 -> same("skylight" + told, block.skylight(cell), model.skylight(cell));
            case 5 -> same("lit" + told, block.lit(cell, high, level), model.lit(cell, high, level));
            case 6 -> same("dim" + told, block.dim(level), model.dim(level));
            case 7 -> same("darkest" + told, block.darkest(), model.darkest());
            case 8 -> same("faces" + told, block.faces(), model.faces());
            case 9 -> same("shady" + told, block.shady(level), model.shady(level));
            case 10 -> same("open" + told, block.open(), model.open());
            case 11 -> {
                int lamp = model.someLamp(below(216));
                same("serves" + told + " lamp " + lamp, block.serves(lamp), model.serves(lamp));
            }
            case 12 -> same("serves" + told, block.serves(cell), model.serves(cell));
            case 13 -> same("rooms" + told, block.rooms(), model.rooms());
            case 14, 15 -> same("lamp" + told, block.lamp(cell, level), model.lamp(cell, level));
            case 16 -> {
                int lamp = model.someLamp(below(216));
                same("lamp" + told + " lamp " + lamp, block.lamp(lamp, 0), model.lamp(lamp, 0));
            }
            case 24, 25 -> same("fill" + told, block.fill(cell, high, flag), model.fill(cell, high, flag));
            case 26 -> same("fill" + told, block.fill(cell, high, 0), model.fill(cell, high, 0));
            case 27 -> same("shell" + told, block.shell(cell, high), model.shell(cell, high));
            default -> same("solid" + told, block.solid(cell, flag), model.solid(cell, flag));
        }
    }

    private static void same(String call, int got, int want) {
        if (got != want) {
            wrong++;
            System.out.println(call + " answered " + got + ", the model " + want);
        }
    }

    /** Cells by their coordinates, with a rim of one around the block; light by the length of the ways from each source. */
    private static final class Model {
        private static final int RIM = 1;
        private static final int WIDE = 8;
        private static final int[][] STEPS = {{1, 0, 0}, {-1, 0, 0}, {0, 1, 0}, {0, -1, 0}, {0, 0, 1}, {0, 0, -1}};

        private final boolean[][][] rock = new boolean[WIDE][WIDE][WIDE];
        private final int[] lamps = new int[216];

        private static int[] place(int cell) {
            return new int[] {RIM + cell % 6, RIM + cell / 6 % 6, RIM + cell / 36};
        }

        private static int number(int x, int y, int z) {
            return 36 * (z - RIM) + 6 * (y - RIM) + (x - RIM);
        }

        private static boolean inBlock(int x, int y, int z) {
            return x >= 1 && x <= 6 && y >= 1 && y <= 6 && z >= 1 && z <= 6;
        }

        private static boolean good(int cell) {
            return cell >= 0 && cell <= 215;
        }

        private static boolean goodBox(int low, int high) {
            if (!good(low) || !good(high)) {
                return false;
            }
            int[] from = place(low);
            int[] to = place(high);
            return from[0] <= to[0] && from[1] <= to[1] && from[2] <= to[2];
        }

        private boolean rockAt(int cell) {
            int[] p = place(cell);
            return rock[p[0]][p[1]][p[2]];
        }

        int solid(int cell, int flag) {
            if (!good(cell)) {
                return -1;
            }
            int[] p = place(cell);
            int before = rockAt(cell) ? 1 : 0;
            rock[p[0]][p[1]][p[2]] = flag != 0;
            return before;
        }

        int fill(int low, int high, int flag) {
            if (!goodBox(low, high)) {
                return -1;
            }
            int[] from = place(low);
            int[] to = place(high);
            int changed = 0;
            for (int x = from[0]; x <= to[0]; x++) {
                for (int y = from[1]; y <= to[1]; y++) {
                    for (int z = from[2]; z <= to[2]; z++) {
                        int want = flag != 0 ? 1 : 0;
                        changed += solid(number(x, y, z), flag) != want ? 1 : 0;
                    }
                }
            }
            return changed;
        }

        int shell(int low, int high) {
            if (!goodBox(low, high)) {
                return -1;
            }
            int[] from = place(low);
            int[] to = place(high);
            int changed = 0;
            for (int axis = 0; axis < 3; axis++) {
                int[] nearTo = to.clone();
                int[] farFrom = from.clone();
                nearTo[axis] = from[axis];
                farFrom[axis] = to[axis];
                changed += fill(low, number(nearTo[0], nearTo[1], nearTo[2]), 1);
                changed += fill(number(farFrom[0], farFrom[1], farFrom[2]), high, 1);
            }
            return changed;
        }

        int lamp(int cell, int strength) {
            if (!good(cell)) {
                return -1;
            }
            if (strength < 0 || strength > 12) {
                return -2;
            }
            int before = lamps[cell];
            lamps[cell] = strength;
            return before;
        }

        /** The first cell from start on, round the block, that holds a lamp; start if none does. */
        int someLamp(int start) {
            for (int i = 0; i < 216; i++) {
                if (lamps[(start + i) % 216] != 0) {
                    return (start + i) % 216;
                }
            }
            return start;
        }

        int isSolid(int cell) {
            return !good(cell) ? -1 : rockAt(cell) ? 1 : 0;
        }

        private boolean seesSky(int cell) {
            int[] p = place(cell);
            for (int z = p[2]; z <= 6; z++) {
                if (rock[p[0]][p[1]][z]) {
                    return false;
                }
            }
            return true;
        }

        /** The length of the shortest way from a cell to each other; 1000 where there is none. */
        private int[] wayLengths(int start) {
            int[] lengths = new int[216];
            java.util.Arrays.fill(lengths, 1000);
            lengths[start] = 0;
            java.util.ArrayDeque<Integer> next = new java.util.ArrayDeque<>();
            next.add(start);
            while (!next.isEmpty()) {
                int cell = next.remove();
                int[] p = place(cell);
                for (int[] step : STEPS) {
                    int x = p[0] + step[0];
                    int y = p[1] + step[1];
                    int z = p[2] + step[2];
                    if (inBlock(x, y, z) && !rock[x][y][z] && lengths[number(x, y, z)] == 1000) {
                        lengths[number(x, y, z)] = lengths[cell] + 1;
                        next.add(number(x, y, z));
                    }
                }
            }
            return lengths;
        }

        private void shine(int[] light, int source, int strength) {
            int[] lengths = wayLengths(source);
            for (int cell = 0; cell < 216; cell++) {
                light[cell] = Math.max(light[cell], strength - lengths[cell]);
            }
        }

        private int[] lampLights() {
            int[] light = new int[216];
            for (int cell = 0; cell < 216; cell++) {
                if (lamps[cell] != 0) {
                    shine(light, cell, lamps[cell]);
                }
            }
            return light;
        }

        private int[] skyLights() {
            int[] light = new int[216];
            for (int cell = 0; cell < 216; cell++) {
                if (seesSky(cell)) {
                    shine(light, cell, 8);
                }
            }
            return light;
        }

        private int[] lights() {
            int[] light = lampLights();
            int[] sky = skyLights();
            for (int cell = 0; cell < 216; cell++) {
                light[cell] = Math.max(light[cell], sky[cell]);
            }
            return light;
        }

        int lamplight(int cell) {
            return good(cell) ? lampLights()[cell] : -1;
        }

        int skylight(int cell) {
            return good(cell) ? skyLights()[cell] : -1;
        }

        int lit(int low, int high, int level) {
            if (!goodBox(low, high)) {
                return -1;
            }
            int[] light = lights();
            int[] from = place(low);
            int[] to = place(high);
            int count = 0;
            for (int x = from[0]; x <= to[0]; x++) {
                for (int y = from[1]; y <= to[1]; y++) {
                    for (int z = from[2]; z <= to[2]; z++) {
                        count += light[number(x, y, z)] >= level ? 1 : 0;
                    }
                }
            }
            return count;
        }

        int dim(int level) {
            if (level < 0 || level > 12) {
                return -1;
            }
            int[] light = lights();
            int count = 0;
            for (int cell = 0; cell < 216; cell++) {
                count += !rockAt(cell) && light[cell] == level ? 1 : 0;
            }
            return count;
        }

        int darkest() {
            int[] light = lights();
            for (int level = 0; level <= 12; level++) {
                for (int cell = 0; cell < 216; cell++) {
                    if (!rockAt(cell) && light[cell] == level) {
                        return cell;
                    }
                }
            }
            return -1;
        }

        int faces() {
            // The rim is never solid, so it stands for the outside.
            int count = 0;
            for (int cell = 0; cell < 216; cell++) {
                int[] p = place(cell);
                for (int[] step : STEPS) {
                    boolean bare = !rock[p[0] + step[0]][p[1] + step[1]][p[2] + step[2]];
                    count += rockAt(cell) && bare ? 1 : 0;
                }
            }
            return count;
        }

        int shady(int level) {
            int[] light = lights();
            int count = 0;
            for (int cell = 0; cell < 216; cell++) {
                int[] p = place(cell);
                boolean stands = !rockAt(cell) && rock[p[0]][p[1]][p[2] - 1];
                count += stands && light[cell] <= level ? 1 : 0;
            }
            return count;
        }

        int open() {
            int count = 0;
            for (int cell = 0; cell < 216; cell++) {
                count += seesSky(cell) ? 1 : 0;
            }
            return count;
        }

        int serves(int cell) {
            if (!good(cell)) {
                return -1;
            }
            int[] with = lights();
            int strength = lamp(cell, 0);
            int[] without = lights();
            lamp(cell, strength);
            int count = 0;
            for (int other = 0; other < 216; other++) {
                count += without[other] < with[other] ? 1 : 0;
            }
            return count;
        }

        int rooms() {
            // A room counts by the one of its cells with the least number.
            int count = 0;
            for (int cell = 0; cell < 216; cell++) {
                if (rockAt(cell)) {
                    continue;
                }
                int[] lengths = wayLengths(cell);
                boolean least = true;
                for (int other = 0; other < cell; other++) {
                    least &= lengths[other] == 1000;
                }
                count += least ? 1 : 0;
            }
            return count;
        }
    }
}
