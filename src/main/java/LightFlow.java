/** Light in a small block of cells, from lamps and from the sky. */
public final class LightFlow {
    private static final int EDGE = 6;
    private static final int LAYER = EDGE * EDGE;
    private static final int CELLS = EDGE * LAYER;
    private static final int SIDES = 6;
    private static final int STRONGEST_LAMP = 12;
    private static final int SKY_STRENGTH = 8;
    private static final int NO_CELL = -1;
    private static final int BAD_PLACE = -1;
    private static final int BAD_STRENGTH = -2;
    private static final int BAD_LEVEL = -1;

    private final boolean[] solidCells = new boolean[CELLS];
    private final int[] lampStrengths = new int[CELLS];

    // Room to work in: each question fills what it needs anew, so that nothing
    // here can be out of date after a change.
    private final int[] glow = new int[CELLS];
    private final int[] glowWithout = new int[CELLS];
    private final boolean[] visited = new boolean[CELLS];
    private final int[] queue = new int[CELLS];

    public LightFlow() {
        // Java's own first values, false and 0, are the block without solid cells and lamps.
    }

    public int solid(int cell, int flag) {
        if (!isGood(cell)) {
            return BAD_PLACE;
        }
        int before = solidCells[cell] ? 1 : 0;
        solidCells[cell] = flag != 0;
        return before;
    }

    public int fill(int low, int high, int flag) {
        if (!isGoodBox(low, high)) {
            return BAD_PLACE;
        }
        int changed = 0;
        for (int cell = 0; cell < CELLS; cell++) {
            if (isInBox(cell, low, high)) {
                changed += makeSolid(cell, flag != 0);
            }
        }
        return changed;
    }

    public int shell(int low, int high) {
        if (!isGoodBox(low, high)) {
            return BAD_PLACE;
        }
        int changed = 0;
        for (int cell = 0; cell < CELLS; cell++) {
            if (isInBox(cell, low, high) && isAtAnEnd(cell, low, high)) {
                changed += makeSolid(cell, true);
            }
        }
        return changed;
    }

    public int lamp(int cell, int strength) {
        if (!isGood(cell)) {
            return BAD_PLACE;
        }
        if (strength < 0 || strength > STRONGEST_LAMP) {
            return BAD_STRENGTH;
        }
        int before = lampStrengths[cell];
        lampStrengths[cell] = strength;
        return before;
    }

    public int isSolid(int cell) {
        if (!isGood(cell)) {
            return BAD_PLACE;
        }
        return solidCells[cell] ? 1 : 0;
    }

    public int lamplight(int cell) {
        if (!isGood(cell)) {
            return BAD_PLACE;
        }
        darken(glow);
        addLamps(glow, NO_CELL);
        spread(glow);
        return glow[cell];
    }

    public int skylight(int cell) {
        if (!isGood(cell)) {
            return BAD_PLACE;
        }
        darken(glow);
        addSky(glow);
        spread(glow);
        return glow[cell];
    }

    public int lit(int low, int high, int level) {
        if (!isGoodBox(low, high)) {
            return BAD_PLACE;
        }
        findLight(glow, NO_CELL);
        int count = 0;
        for (int cell = 0; cell < CELLS; cell++) {
            if (isInBox(cell, low, high) && glow[cell] >= level) {
                count++;
            }
        }
        return count;
    }

    public int dim(int level) {
        if (level < 0 || level > STRONGEST_LAMP) {
            return BAD_LEVEL;
        }
        findLight(glow, NO_CELL);
        int count = 0;
        for (int cell = 0; cell < CELLS; cell++) {
            if (isFree(cell) && glow[cell] == level) {
                count++;
            }
        }
        return count;
    }

    public int darkest() {
        findLight(glow, NO_CELL);
        int first = NO_CELL;
        int least = STRONGEST_LAMP + 1;
        for (int cell = 0; cell < CELLS; cell++) {
            if (isFree(cell) && glow[cell] < least) {
                first = cell;
                least = glow[cell];
            }
        }
        return first;
    }

    public int faces() {
        int count = 0;
        for (int cell = 0; cell < CELLS; cell++) {
            if (solidCells[cell]) {
                count += bareSides(cell);
            }
        }
        return count;
    }

    public int shady(int level) {
        findLight(glow, NO_CELL);
        int count = 0;
        for (int cell = LAYER; cell < CELLS; cell++) {
            if (isFree(cell) && solidCells[cell - LAYER] && glow[cell] <= level) {
                count++;
            }
        }
        return count;
    }

    public int open() {
        int count = 0;
        for (int cell = 0; cell < CELLS; cell++) {
            if (seesSky(cell)) {
                count++;
            }
        }
        return count;
    }

    public int serves(int cell) {
        if (!isGood(cell)) {
            return BAD_PLACE;
        }
        findLight(glow, NO_CELL);
        findLight(glowWithout, cell);
        int count = 0;
        for (int other = 0; other < CELLS; other++) {
            if (glowWithout[other] < glow[other]) {
                count++;
            }
        }
        return count;
    }

    public int rooms() {
        for (int cell = 0; cell < CELLS; cell++) {
            visited[cell] = false;
        }
        int count = 0;
        for (int cell = 0; cell < CELLS; cell++) {
            if (isFree(cell) && !visited[cell]) {
                visitRoom(cell);
                count++;
            }
        }
        return count;
    }

    private static boolean isGood(int cell) {
        return cell >= 0 && cell < CELLS;
    }

    private static boolean isGoodBox(int low, int high) {
        return isGood(low) && isGood(high) && isAtMost(low, high);
    }

    private static boolean isInBox(int cell, int low, int high) {
        return isAtMost(low, cell) && isAtMost(cell, high);
    }

    private static boolean isAtMost(int cell, int other) {
        return xOf(cell) <= xOf(other) && yOf(cell) <= yOf(other) && zOf(cell) <= zOf(other);
    }

    private static boolean isAtAnEnd(int cell, int low, int high) {
        return xOf(cell) == xOf(low) || xOf(cell) == xOf(high)
            || yOf(cell) == yOf(low) || yOf(cell) == yOf(high)
            || zOf(cell) == zOf(low) || zOf(cell) == zOf(high);
    }

    private static int xOf(int cell) {
        return cell % EDGE;
    }

    private static int yOf(int cell) {
        return cell / EDGE % EDGE;
    }

    private static int zOf(int cell) {
        return cell / LAYER;
    }

    /** The neighbour at one of the six sides, or NO_CELL where that side is on the outside. */
    private static int neighbour(int cell, int side) {
        switch (side) {
            case 0:
                return xOf(cell) > 0 ? cell - 1 : NO_CELL;
            case 1:
                return xOf(cell) < EDGE - 1 ? cell + 1 : NO_CELL;
            case 2:
                return yOf(cell) > 0 ? cell - EDGE : NO_CELL;
            case 3:
                return yOf(cell) < EDGE - 1 ? cell + EDGE : NO_CELL;
            case 4:
                return zOf(cell) > 0 ? cell - LAYER : NO_CELL;
            default:
                return zOf(cell) < EDGE - 1 ? cell + LAYER : NO_CELL;
        }
    }

    /** Whether this is a cell of the block (NO_CELL is none) and not solid. */
    private boolean isFree(int cell) {
        return isGood(cell) && !solidCells[cell];
    }

    private boolean seesSky(int cell) {
        for (int above = cell; above < CELLS; above += LAYER) {
            if (!isFree(above)) {
                return false;
            }
        }
        return true;
    }

    /** Answers 1 if this changed the cell, otherwise 0. */
    private int makeSolid(int cell, boolean wanted) {
        if (solidCells[cell] == wanted) {
            return 0;
        }
        solidCells[cell] = wanted;
        return 1;
    }

    private int bareSides(int cell) {
        int count = 0;
        for (int side = 0; side < SIDES; side++) {
            int next = neighbour(cell, side);
            if (next == NO_CELL || isFree(next)) {
                count++;
            }
        }
        return count;
    }

    /** The light of all cells, as if the cell leftOut (NO_CELL for none) held no lamp. */
    private void findLight(int[] levels, int leftOut) {
        // The greatest over lamps and sky together is the greater of the two
        // greatest, so one spreading from both does for the light.
        darken(levels);
        addLamps(levels, leftOut);
        addSky(levels);
        spread(levels);
    }

    private static void darken(int[] levels) {
        for (int cell = 0; cell < CELLS; cell++) {
            levels[cell] = 0;
        }
    }

    private void addLamps(int[] levels, int leftOut) {
        for (int cell = 0; cell < CELLS; cell++) {
            if (cell != leftOut && lampStrengths[cell] > levels[cell]) {
                levels[cell] = lampStrengths[cell];
            }
        }
    }

    private void addSky(int[] levels) {
        for (int cell = 0; cell < CELLS; cell++) {
            if (levels[cell] < SKY_STRENGTH && seesSky(cell)) {
                levels[cell] = SKY_STRENGTH;
            }
        }
    }

    private void spread(int[] levels) {
        // From the strongest level down: a cell's level is final once its turn
        // has come, as later turns only give lower ones.
        for (int level = STRONGEST_LAMP; level > 1; level--) {
            for (int cell = 0; cell < CELLS; cell++) {
                if (levels[cell] == level) {
                    spreadFrom(cell, levels);
                }
            }
        }
    }

    private void spreadFrom(int cell, int[] levels) {
        // The cell itself may be solid: a way's first cell may be, so a lamp in
        // a solid cell shines out of it. Light never enters a solid cell.
        int given = levels[cell] - 1;
        for (int side = 0; side < SIDES; side++) {
            int next = neighbour(cell, side);
            if (isFree(next) && levels[next] < given) {
                levels[next] = given;
            }
        }
    }

    /** Marks all cells that one gets to from a cell that is not solid. */
    private void visitRoom(int start) {
        visited[start] = true;
        queue[0] = start;
        int waiting = 1;
        // A cell is queued only when it is first marked, so never more than CELLS are.
        for (int taken = 0; taken < waiting && taken < CELLS; taken++) {
            for (int side = 0; side < SIDES; side++) {
                int next = neighbour(queue[taken], side);
                if (isFree(next) && !visited[next] && waiting < CELLS) {
                    visited[next] = true;
                    queue[waiting] = next;
                    waiting++;
                }
            }
        }
    }
}
