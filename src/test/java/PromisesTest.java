/** For each promise: ordinary inputs, the edges that the document names, wrong inputs; answers worked out by hand. */
public final class PromisesTest {
    private static final int[] BAD_CELLS = {-1, 216, -36, 252, Integer.MIN_VALUE, Integer.MAX_VALUE};
    // Pairs low, high: a cell that is not good, or low above high in just one of x, y and z.
    private static final int[] BAD_BOXES = {
        -1, 215, 0, 216, -1, -1, 216, 216, 0, -1, 216, 0, Integer.MIN_VALUE, 0, 0, Integer.MAX_VALUE,
        1, 0, 6, 0, 36, 0, 1, 210, 5, 214, 30, 209, 180, 179, 42, 41,
    };

    private static int wrong = 0;

    public static void main(String[] args) {
        newObject();
        solid();
        fill();
        shell();
        lamp();
        isSolid();
        lamplight();
        lamplightBySolidCells();
        skylight();
        lit();
        dim();
        darkest();
        faces();
        shady();
        open();
        serves();
        rooms();
        refusedCallsChangeNothing();
        System.out.println(wrong == 0 ? "all promises hold" : wrong + " answers are not as due");
        if (wrong != 0) {
            System.exit(1);
        }
    }

    private static void due(String call, int got, int want) {
        if (got != want) {
            wrong++;
            System.out.println(call + " answered " + got + ", due is " + want);
        }
    }

    private static int at(int x, int y, int z) {
        return 36 * z + 6 * y + x;
    }

    /** All solid, so that only what a test opens or lights can count. */
    private static LightFlow rock() {
        LightFlow block = new LightFlow();
        block.fill(0, 215, 1);
        return block;
    }

    /** Solid but for the cells (0, 0, 0) .. (5, 0, 0). */
    private static LightFlow tunnel() {
        LightFlow block = rock();
        block.fill(0, 5, 0);
        return block;
    }

    private static void newObject() {
        LightFlow block = new LightFlow();
        for (int cell = 0; cell < 216; cell++) {
            due("1: isSolid " + cell, block.isSolid(cell), 0);
            due("1: lamp " + cell, block.lamp(cell, 0), 0);
        }
        block = new LightFlow();
        due("1: faces", block.faces(), 0);
        due("1: open", block.open(), 216);
        due("1: rooms", block.rooms(), 1);
        due("1: dim 8", block.dim(8), 216);
        block.fill(0, 215, 1);
        block.lamp(3, 3);
        LightFlow other = new LightFlow();
        due("1: objects share no solid cells", other.isSolid(0), 0);
        due("1: objects share no lamps", other.lamp(3, 0), 0);
    }

    private static void solid() {
        LightFlow block = new LightFlow();
        due("2: was not", block.solid(7, 1), 0);
        due("2: was", block.solid(7, 1), 1);
        due("2: only this one", block.fill(0, 215, 0), 1);
        due("2: made not solid by fill", block.solid(7, 0), 0);
        due("2: not solid stays so", block.solid(7, 0), 0);
        due("2: flag -1", block.solid(7, -1), 0);
        due("2: flag 2", block.solid(7, 2), 1);
        due("2: flag least", block.solid(7, Integer.MIN_VALUE), 1);
        due("2: still solid", block.isSolid(7), 1);
        due("2: flag 0", block.solid(7, 0), 1);
        due("2: no longer solid", block.isSolid(7), 0);
        due("2: first cell", block.solid(0, 1), 0);
        due("2: last cell", block.solid(215, 1), 0);
        for (int cell : BAD_CELLS) {
            due("2: bad " + cell, block.solid(cell, 1), -1);
            due("2: bad " + cell, block.solid(cell, 0), -1);
        }
        due("2: the lamp stays", block.lamp(0, 5), 0);
        block.solid(0, 0);
        block.solid(0, 1);
        due("2: the lamp stayed", block.lamp(0, 0), 5);
    }

    private static void fill() {
        LightFlow block = new LightFlow();
        due("3: box", block.fill(at(1, 2, 3), at(2, 4, 4), 1), 12);
        for (int cell = 0; cell < 216; cell++) {
            int x = cell % 6;
            int y = cell / 6 % 6;
            int z = cell / 36;
            boolean inside = x >= 1 && x <= 2 && y >= 2 && y <= 4 && z >= 3 && z <= 4;
            due("3: isSolid " + cell, block.isSolid(cell), inside ? 1 : 0);
        }
        due("3: again", block.fill(at(1, 2, 3), at(2, 4, 4), -7), 0);
        due("3: the rest", block.fill(0, 215, 5), 204);
        due("3: one cell", block.fill(100, 100, 0), 1);
        due("3: one cell again", block.fill(100, 100, 0), 0);
        due("3: all but that", block.fill(0, 215, 0), 215);
        for (int i = 0; i < BAD_BOXES.length; i += 2) {
            due("3: bad box " + BAD_BOXES[i], block.fill(BAD_BOXES[i], BAD_BOXES[i + 1], 1), -1);
        }
        due("3: bad boxes changed nothing", block.fill(0, 215, 0), 0);
    }

    private static void shell() {
        LightFlow block = new LightFlow();
        due("4: 3 x 4 x 5", block.shell(at(1, 1, 1), at(3, 4, 5)), 60 - 6);
        for (int cell = 0; cell < 216; cell++) {
            int x = cell % 6;
            int y = cell / 6 % 6;
            int z = cell / 36;
            boolean inside = x >= 1 && x <= 3 && y >= 1 && y <= 4 && z >= 1;
            boolean wall = x == 1 || x == 3 || y == 1 || y == 4 || z == 1 || z == 5;
            due("4: isSolid " + cell, block.isSolid(cell), inside && wall ? 1 : 0);
        }
        due("4: again", block.shell(at(1, 1, 1), at(3, 4, 5)), 0);
        block.solid(at(1, 1, 1), 0);
        due("4: one changed", block.shell(at(1, 1, 1), at(3, 4, 5)), 1);
        block.solid(at(2, 2, 2), 1);
        due("4: within", block.shell(at(1, 1, 1), at(3, 4, 5)), 0);
        due("4: within is left alone", block.isSolid(at(2, 2, 2)), 1);
        block = new LightFlow();
        due("4: whole block", block.shell(0, 215), 152);
        block = new LightFlow();
        due("4: one cell", block.shell(43, 43), 1);
        due("4: two thick is all wall", block.shell(at(2, 2, 2), at(3, 5, 5)), 32);
        block = new LightFlow();
        for (int i = 0; i < BAD_BOXES.length; i += 2) {
            due("4: bad box " + BAD_BOXES[i], block.shell(BAD_BOXES[i], BAD_BOXES[i + 1]), -1);
        }
        due("4: bad boxes changed nothing", block.fill(0, 215, 0), 0);
    }

    private static void lamp() {
        LightFlow block = new LightFlow();
        due("5: first", block.lamp(9, 12), 0);
        due("5: in its place", block.lamp(9, 1), 12);
        due("5: weaker took its place", block.lamplight(9), 1);
        due("5: taken away", block.lamp(9, 0), 1);
        due("5: is gone", block.lamplight(9), 0);
        due("5: none to take", block.lamp(9, 0), 0);
        due("5: 13", block.lamp(9, 13), -2);
        due("5: -1", block.lamp(9, -1), -2);
        due("5: least", block.lamp(9, Integer.MIN_VALUE), -2);
        due("5: greatest", block.lamp(9, Integer.MAX_VALUE), -2);
        for (int cell : BAD_CELLS) {
            due("5: bad " + cell, block.lamp(cell, 1), -1);
            due("5: the cell is tested first " + cell, block.lamp(cell, 13), -1);
        }
        due("5: the last cell", block.lamp(215, 4), 0);
        due("5: the first cell", block.lamp(0, 5), 0);
        due("5: each its own", block.lamp(215, 0), 4);
        due("5: each its own", block.lamp(0, 0), 5);
    }

    private static void isSolid() {
        LightFlow block = new LightFlow();
        block.solid(0, 1);
        block.solid(215, 9);
        due("6: 0", block.isSolid(0), 1);
        due("6: 215", block.isSolid(215), 1);
        due("6: 1", block.isSolid(1), 0);
        for (int cell : BAD_CELLS) {
            due("6: bad " + cell, block.isSolid(cell), -1);
        }
    }

    private static void lamplight() {
        LightFlow block = new LightFlow();
        due("7: the sky is no lamp", block.lamplight(0), 0);
        block.lamp(at(1, 2, 3), 6);
        for (int cell = 0; cell < 216; cell++) {
            int far = Math.abs(cell % 6 - 1) + Math.abs(cell / 6 % 6 - 2) + Math.abs(cell / 36 - 3);
            due("7: free air " + cell, block.lamplight(cell), Math.max(0, 6 - far));
        }
        block = new LightFlow();
        block.lamp(0, 12);
        due("7: 11 off", block.lamplight(at(5, 5, 1)), 1);
        due("7: 12 off", block.lamplight(at(5, 5, 2)), 0);
        due("7: 15 off", block.lamplight(215), 0);
        block.lamp(at(5, 0, 0), 9);
        due("7: the stronger of two, near the one", block.lamplight(at(3, 0, 0)), 9);
        due("7: the stronger of two, near the other", block.lamplight(at(4, 0, 0)), 8);
        due("7: not their sum", block.lamplight(at(5, 0, 0)), 9);
        block.lamp(at(5, 0, 0), 1);
        due("7: a weak lamp dims nothing", block.lamplight(at(5, 0, 0)), 7);
        for (int cell : BAD_CELLS) {
            due("7: bad " + cell, block.lamplight(cell), -1);
        }
    }

    private static void lamplightBySolidCells() {
        LightFlow block = tunnel();
        block.lamp(0, 12);
        due("7: along the tunnel", block.lamplight(5), 7);
        block.solid(3, 1);
        due("7: before the wall", block.lamplight(2), 10);
        due("7: in the wall", block.lamplight(3), 0);
        due("7: behind the wall", block.lamplight(4), 0);
        block.lamp(3, 4);
        due("7: a lamp in the wall", block.lamplight(3), 4);
        due("7: shines out of it", block.lamplight(4), 3);
        due("7: on either side", block.lamplight(2), 10);
        due("7: and on", block.lamplight(5), 2);
        block.lamp(0, 0);
        due("7: and on the other side", block.lamplight(0), 1);
        block.solid(0, 1);
        block.lamp(0, 12);
        due("7: from one solid cell not into another", block.lamplight(6), 0);
        due("7: not through a solid lamp cell", block.lamplight(4), 3);
        block.lamp(3, 1);
        due("7: strength 1 lights only its cell", block.lamplight(3), 1);
        due("7: strength 1 lights only its cell", block.lamplight(4), 0);
        block = rock();
        // Round a corner and up: (0,0,0) (1,0,0) (1,1,0) (1,1,1), 3 steps.
        block.fill(at(0, 0, 0), at(1, 0, 0), 0);
        block.fill(at(1, 1, 0), at(1, 1, 1), 0);
        block.lamp(at(1, 1, 1), 8);
        due("7: round corners", block.lamplight(0), 5);
    }

    private static void skylight() {
        LightFlow block = new LightFlow();
        block.lamp(0, 12);
        due("8: a lamp is no sky", block.skylight(0), 8);
        due("8: no solid cell, no loss with depth", block.skylight(100), 8);
        block.solid(at(2, 2, 5), 1);
        due("8: a solid cell has none", block.skylight(at(2, 2, 5)), 0);
        due("8: below it, from the side", block.skylight(at(2, 2, 4)), 7);
        due("8: below it, at the bottom", block.skylight(at(2, 2, 0)), 7);
        due("8: beside it", block.skylight(at(3, 2, 0)), 8);
        // A shaft at (0, 0) into a tunnel at the bottom, with a bend.
        block = tunnel();
        block.fill(at(5, 1, 0), at(5, 5, 0), 0);
        due("8: closed", block.skylight(0), 0);
        block.fill(at(0, 0, 1), at(0, 0, 5), 0);
        due("8: the shaft", block.skylight(0), 8);
        due("8: 5 off", block.skylight(5), 3);
        due("8: 7 off", block.skylight(at(5, 2, 0)), 1);
        due("8: 8 off", block.skylight(at(5, 3, 0)), 0);
        due("8: rock has none", block.skylight(at(1, 1, 0)), 0);
        block.solid(at(0, 0, 5), 1);
        due("8: shut at the top", block.skylight(0), 0);
        for (int cell : BAD_CELLS) {
            due("8: bad " + cell, block.skylight(cell), -1);
        }
    }

    private static void lit() {
        LightFlow block = tunnel();
        block.lamp(0, 6);
        due("9: at least 1", block.lit(0, 215, 1), 6);
        due("9: at least 4", block.lit(0, 215, 4), 3);
        due("9: at least 6", block.lit(0, 215, 6), 1);
        due("9: at least 7", block.lit(0, 215, 7), 0);
        due("9: at least 0, solid cells too", block.lit(0, 215, 0), 216);
        due("9: least int", block.lit(0, 215, Integer.MIN_VALUE), 216);
        due("9: greatest int", block.lit(0, 215, Integer.MAX_VALUE), 0);
        due("9: part of the tunnel", block.lit(2, 4, 3), 2);
        due("9: a box of one", block.lit(1, 1, 5), 1);
        due("9: a box beside", block.lit(6, 215, 1), 0);
        block.lamp(at(3, 3, 3), 12);
        due("9: a lamp in rock", block.lit(0, 215, 12), 1);
        block.fill(at(5, 0, 1), at(5, 0, 5), 0);
        due("9: by the sky", block.lit(0, 215, 8), 7);
        due("9: lamp and sky together", block.lit(0, 5, 6), 4);
        due("9: the greater, no sum", block.lit(0, 5, 9), 0);
        for (int i = 0; i < BAD_BOXES.length; i += 2) {
            due("9: bad box " + BAD_BOXES[i], block.lit(BAD_BOXES[i], BAD_BOXES[i + 1], 0), -1);
        }
    }

    private static void dim() {
        LightFlow block = tunnel();
        due("10: all dark", block.dim(0), 6);
        block.lamp(0, 12);
        for (int level = 0; level <= 12; level++) {
            due("10: level " + level, block.dim(level), level >= 7 ? 1 : 0);
        }
        block.lamp(100, 3);
        due("10: solid cells do not count", block.dim(3), 0);
        block.lamp(0, 4);
        due("10: the dark end", block.dim(0), 2);
        due("10: -1", block.dim(-1), -1);
        due("10: 13", block.dim(13), -1);
        due("10: least", block.dim(Integer.MIN_VALUE), -1);
        due("10: greatest", block.dim(Integer.MAX_VALUE), -1);
        block = new LightFlow();
        block.lamp(at(0, 0, 0), 9);
        due("10: the sky and one lamp, 8", block.dim(8), 215);
        due("10: the sky and one lamp, 9", block.dim(9), 1);
    }

    private static void darkest() {
        LightFlow block = new LightFlow();
        due("11: all the same", block.darkest(), 0);
        block.lamp(0, 12);
        due("11: the first of the least", block.darkest(), at(4, 0, 0));
        block = tunnel();
        block.lamp(2, 12);
        due("11: the far end", block.darkest(), 5);
        block.lamp(5, 12);
        due("11: the near end", block.darkest(), 0);
        block.solid(0, 1);
        due("11: solid cells do not count", block.darkest(), 1);
        block.fill(1, 5, 1);
        due("11: all solid", block.darkest(), -1);
        block.solid(215, 0);
        block.lamp(215, 12);
        due("11: the last cell alone, fully lit", block.darkest(), 215);
    }

    private static void faces() {
        LightFlow block = new LightFlow();
        block.solid(at(2, 2, 2), 1);
        due("12: one inside", block.faces(), 6);
        block.solid(at(3, 2, 2), 1);
        due("12: two side by side", block.faces(), 10);
        block.solid(at(2, 3, 3), 1);
        due("12: one that touches only an edge", block.faces(), 16);
        block = new LightFlow();
        block.solid(0, 1);
        due("12: a corner of the block", block.faces(), 6);
        block.solid(215, 1);
        due("12: the other corner", block.faces(), 12);
        block = new LightFlow();
        block.solid(at(5, 0, 0), 1);
        block.solid(at(0, 1, 0), 1);
        due("12: numbers that follow but no neighbours", block.faces(), 12);
        due("12: rock", rock().faces(), 216);
        block = rock();
        block.solid(at(2, 2, 2), 0);
        due("12: a hole inside", block.faces(), 222);
        block = rock();
        block.solid(0, 0);
        due("12: a corner out", block.faces(), 216);
    }

    private static void shady() {
        LightFlow block = new LightFlow();
        due("13: none solid", block.shady(12), 0);
        block.fill(0, 35, 1);
        due("13: on the floor, too light", block.shady(7), 0);
        due("13: on the floor", block.shady(8), 36);
        due("13: greatest int", block.shady(Integer.MAX_VALUE), 36);
        due("13: least int", block.shady(Integer.MIN_VALUE), 0);
        block.solid(at(3, 3, 1), 1);
        due("13: one higher", block.shady(8), 36);
        block.fill(at(0, 0, 2), at(5, 5, 2), 1);
        block.solid(at(3, 3, 1), 0);
        due("13: under the roof", block.shady(0), 36);
        due("13: and on it", block.shady(8), 72);
        due("13: a negative level", block.shady(-1), 0);
        block.lamp(at(0, 0, 1), 3);
        due("13: a lamp under the roof", block.shady(0), 30);
        due("13: at most 2", block.shady(2), 35);
        block = tunnel();
        due("13: z 0 has none below", block.shady(12), 0);
        block = new LightFlow();
        block.solid(at(1, 1, 5), 1);
        due("13: none above the top", block.shady(12), 0);
    }

    private static void open() {
        LightFlow block = new LightFlow();
        block.solid(at(1, 1, 5), 1);
        due("14: a whole column shut", block.open(), 210);
        block.solid(at(2, 2, 0), 1);
        due("14: only the bottom", block.open(), 209);
        block.solid(at(3, 3, 2), 1);
        due("14: three of six", block.open(), 206);
        block.lamp(at(4, 4, 4), 12);
        due("14: a lamp shuts nothing", block.open(), 206);
        due("14: rock", rock().open(), 0);
        due("14: a tunnel", tunnel().open(), 0);
    }

    private static void serves() {
        LightFlow block = tunnel();
        due("15: no lamp", block.serves(0), 0);
        block.lamp(0, 4);
        due("15: four cells", block.serves(0), 4);
        block.lamp(5, 12);
        due("15: outdone", block.serves(0), 0);
        due("15: the other", block.serves(5), 6);
        block.lamp(5, 5);
        due("15: lights 4 3 2 3 4 5, a tie in the middle", block.serves(0), 2);
        due("15: the tie counts for neither", block.serves(5), 3);
        due("15: no lamp beside lamps", block.serves(2), 0);
        due("15: it is still there", block.lamp(0, 0), 4);
        block.lamp(100, 12);
        due("15: a lamp in rock serves its cell", block.serves(100), 1);
        for (int cell : BAD_CELLS) {
            due("15: bad " + cell, block.serves(cell), -1);
        }
        block = new LightFlow();
        block.lamp(0, 8);
        due("15: the sky is as light", block.serves(0), 0);
        block.lamp(0, 9);
        due("15: lighter than the sky", block.serves(0), 1);
        block.lamp(0, 10);
        due("15: the neighbours too", block.serves(0), 4);
    }

    private static void rooms() {
        LightFlow block = rock();
        due("16: rock", block.rooms(), 0);
        block.solid(0, 0);
        due("16: one cell", block.rooms(), 1);
        block.solid(at(1, 1, 0), 0);
        due("16: an edge does not join", block.rooms(), 2);
        block.solid(at(1, 0, 0), 0);
        due("16: joined", block.rooms(), 1);
        block.solid(at(5, 1, 0), 0);
        block.solid(at(0, 2, 0), 0);
        due("16: numbers that follow but no neighbours", block.rooms(), 3);
        block.solid(215, 0);
        due("16: the last cell", block.rooms(), 4);
        block = new LightFlow();
        block.fill(at(0, 0, 3), at(5, 5, 3), 1);
        due("16: above and below", block.rooms(), 2);
        block.solid(at(5, 5, 3), 0);
        due("16: a hole joins them", block.rooms(), 1);
        block = new LightFlow();
        for (int cell = 0; cell < 216; cell++) {
            block.solid(cell, (cell % 6 + cell / 6 % 6 + cell / 36) % 2);
        }
        due("16: every other cell", block.rooms(), 108);
    }

    private static void refusedCallsChangeNothing() {
        LightFlow block = new LightFlow();
        block.fill(0, 107, 1);
        block.lamp(50, 7);
        block.solid(216, 1);
        block.solid(-1, 0);
        block.fill(0, 216, 0);
        block.fill(36, 35, 0);
        block.shell(1, 216);
        block.shell(150, 149);
        block.lamp(50, 13);
        block.lamp(50, -1);
        block.lamp(216, 3);
        due("refused: lamp", block.lamp(50, 7), 7);
        due("refused: above", block.fill(108, 215, 0), 0);
        due("refused: below", block.fill(0, 107, 1), 0);
    }
}
