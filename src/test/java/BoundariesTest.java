import java.util.List;
import java.util.function.IntUnaryOperator;
import java.util.function.ToIntFunction;

/**
 * Each sentence of the document that names a boundary case, with a test of its own. The sentence stands before
 * its test, so that a failure names what was broken. No object here gets more than 512 calls.
 */
public final class BoundariesTest {
    private static final int LEAST = Integer.MIN_VALUE;
    private static final int GREATEST = Integer.MAX_VALUE;
    // The last ones would be good if they were cut down to a byte or a short.
    private static final int[] BAD_CELLS = {
        -1, 216, -2, 217, -36, 252, -215, -216, LEAST, LEAST + 1, GREATEST, GREATEST - 1,
        256, -256, 65536, -65536, 65551,
    };
    private static final int[] FLAGS_NOT_0 = {1, -1, 2, -2, 256, 65536, 1 << 30, LEAST, GREATEST};

    private static final int MOST_TOLD = 10;

    private static String sentence = "";
    private static int wrong = 0;
    private static int wrongBefore = 0;

    public static void main(String[] args) {
        testTerms();
        testChanges();
        testCellQuestions();
        testBlockQuestions();
        System.out.println(wrong == 0 ? "all boundaries hold" : wrong + " answers are not as due");
        if (wrong != 0) {
            System.exit(1);
        }
    }

    private static void testTerms() {
        test("used for at most 512 calls: the 512th is still answered", BoundariesTest::call512);
        test("x, y and z in 0 .. 5; the cell's number is 36 * z + 6 * y + x", BoundariesTest::numbers);
        test("ways: neighbours differ by 1 in one and are the same in the other two",
            BoundariesTest::neighboursOfWays);
        test("faces: neighbours differ by 1 in one and are the same in the other two",
            BoundariesTest::neighboursOfFaces);
        test("rooms: neighbours differ by 1 in one and are the same in the other two",
            BoundariesTest::neighboursOfRooms);
        test("sees the sky if it and all cells with a greater z are not solid", BoundariesTest::seesSky);
        test("a way: all cells but the first are not solid", BoundariesTest::waysAndSolidCells);
        test("a way of length 0 is just s, which may be solid", BoundariesTest::wayOfLength0);
        test("lamplight: (strength) - k, but at least 0", BoundariesTest::lamplightAtLeast0);
        test("lamplight: the greatest number over all lamps and ways", BoundariesTest::lamplightGreatest);
        test("skylight: 8 - k, but at least 0", BoundariesTest::skylightAtLeast0);
        test("skylight: the greatest number over all cells that see the sky", BoundariesTest::skylightGreatest);
        test("the light is the greater of the two", BoundariesTest::lightIsTheGreater);
        test("no question changes anything", BoundariesTest::questionsChangeNothing);
        test("a refused call changes nothing", BoundariesTest::refusedCallsChangeNothing);
        test("the tests are made in the order named", BoundariesTest::orderOfTests);
    }

    private static void testChanges() {
        test("1: no cell is solid", BoundariesTest::newWithoutSolidCells);
        test("1: no lamps", BoundariesTest::newWithoutLamps);
        test("1: a new object is new whatever others hold", BoundariesTest::newBesideOthers);
        test("2: solid (flag not 0)", BoundariesTest::solidFlagNot0);
        test("2: or not (flag 0)", BoundariesTest::solidFlag0);
        test("2: -1 if cell is not good", BoundariesTest::solidBadCell);
        test("2: 1 if it was solid before, else 0", BoundariesTest::solidBefore);
        test("3: all cells of a box, from one cell to the block", BoundariesTest::fillBoxes);
        test("3: solid (any flag but 0) or not (0)", BoundariesTest::fillFlags);
        test("3: -1 if the box is not good", BoundariesTest::fillBadBox);
        test("3: how many of them changed", BoundariesTest::fillChanged);
        test("4: at least one of x, y and z at an end of the box", BoundariesTest::shellWalls);
        test("4: every box, the thin ones all wall", BoundariesTest::shellBoxes);
        test("4: makes only walls solid, and none not solid", BoundariesTest::shellLeavesTheRest);
        test("4: -1 if the box is not good", BoundariesTest::shellBadBox);
        test("4: how many of them changed", BoundariesTest::shellChanged);
        test("5: in place of the one there", BoundariesTest::lampInPlace);
        test("5: takes it away (strength 0)", BoundariesTest::lampTakenAway);
        test("5: -1 if cell is not good", BoundariesTest::lampBadCell);
        test("5: -2 if strength is not in 0 .. 12", BoundariesTest::lampBadStrength);
        test("5: otherwise answers the strength before", BoundariesTest::lampBefore);
        test("5: a lamp stays while its cell becomes solid or not", BoundariesTest::lampStays);
    }

    private static void testCellQuestions() {
        test("6: 1 if the cell is solid, otherwise 0", BoundariesTest::isSolidEdges);
        test("6: -1 if it is not good", () -> badCells(LightFlow::new, LightFlow::isSolid));
        test("7: the lamplight of a cell, the first and the last", BoundariesTest::lamplightEdges);
        test("7: of lamps alone", BoundariesTest::lamplightWithoutSky);
        test("7: -1 if it is not good", () -> badCells(BoundariesTest::scene, LightFlow::lamplight));
        test("8: the skylight of a cell, the first and the last", BoundariesTest::skylightEdges);
        test("8: of the sky alone", BoundariesTest::skylightWithoutLamps);
        test("8: -1 if it is not good", () -> badCells(BoundariesTest::scene, LightFlow::skylight));
        test("9: at least level", BoundariesTest::litAtLeast);
        test("9: level (any int)", BoundariesTest::litAnyInt);
        test("9: cells of a box, solid ones too", BoundariesTest::litBoxes);
        test("9: -1 if the box is not good", BoundariesTest::litBadBox);
        test("15: less light, not as much", BoundariesTest::servesLess);
        test("15: (0 if there is none)", BoundariesTest::servesNone);
        test("15: the weakest, the strongest, one in a solid cell", BoundariesTest::servesEdges);
        test("15: if it were taken away: it is not", BoundariesTest::servesTakesNothing);
        test("15: -1 if cell is not good", () -> badCells(BoundariesTest::scene, LightFlow::serves));
    }

    private static void testBlockQuestions() {
        test("10: a light of just level", BoundariesTest::dimJust);
        test("10: cells that are not solid", BoundariesTest::dimNotSolid);
        test("10: -1 if level is not in 0 .. 12", BoundariesTest::dimBadLevel);
        test("11: the first of those with the least light", BoundariesTest::darkestFirst);
        test("11: of those that are not solid", BoundariesTest::darkestNotSolid);
        test("11: -1 if all cells are solid", BoundariesTest::darkestAllSolid);
        test("12: pairs of a solid cell and a neighbour that is not", BoundariesTest::facesPairs);
        test("12: plus the sides on the outside of the block", BoundariesTest::facesOutside);
        test("12: none solid, all solid", BoundariesTest::facesEmptyAndFull);
        test("13: the cell below them solid (so z >= 1)", BoundariesTest::shadyBelow);
        test("13: cells that are not solid", BoundariesTest::shadyNotSolid);
        test("13: at most level", BoundariesTest::shadyAtMost);
        test("13: level (any int)", BoundariesTest::shadyAnyInt);
        test("14: how many see the sky, from none to all", BoundariesTest::openNoneToAll);
        test("16: no set, one set, as many as can be", BoundariesTest::roomsFewAndMany);
        test("16: greatest sets: one long room is one", BoundariesTest::roomsLong);
    }

    private static void test(String words, Runnable test) {
        sentence = words;
        wrongBefore = wrong;
        test.run();
    }

    private static void due(String call, int got, int want) {
        if (got != want) {
            wrong++;
            // A broken sentence can fail for thousands of boxes; the first ones tell enough.
            if (wrong - wrongBefore <= MOST_TOLD) {
                System.out.println("[" + sentence + "] " + call + " answered " + got + ", due is " + want);
            }
        }
    }

    // ---- Blocks to test on

    private static int at(int x, int y, int z) {
        return 36 * z + 6 * y + x;
    }

    private static int xOf(int cell) {
        return cell % 6;
    }

    private static int yOf(int cell) {
        return cell / 6 % 6;
    }

    private static int zOf(int cell) {
        return cell / 36;
    }

    private static int apart(int a, int b) {
        return Math.abs(xOf(a) - xOf(b)) + Math.abs(yOf(a) - yOf(b)) + Math.abs(zOf(a) - zOf(b));
    }

    private static LightFlow rock() {
        LightFlow block = new LightFlow();
        block.fill(0, 215, 1);
        return block;
    }

    /** The cell k steps along a bent passage of 16 cells in the layer z, which touches itself nowhere. */
    private static int step(int k, int z) {
        if (k <= 5) {
            return at(k, 0, z);
        }
        return k <= 10 ? at(5, k - 5, z) : at(15 - k, 5, z);
    }

    /** Rock with that passage in the layer z. */
    private static LightFlow passage(int z) {
        LightFlow block = rock();
        block.fill(at(0, 0, z), at(5, 0, z), 0);
        block.fill(at(5, 0, z), at(5, 5, z), 0);
        block.fill(at(0, 5, z), at(5, 5, z), 0);
        return block;
    }

    /** A roof with a hole, a closed room, and lamps in the open, under the roof and in the walls. */
    private static LightFlow scene() {
        LightFlow block = new LightFlow();
        block.fill(at(0, 0, 3), at(5, 5, 3), 1);
        block.solid(at(4, 4, 3), 0);
        block.shell(at(0, 0, 0), at(2, 2, 2));
        block.lamp(at(1, 1, 1), 5);
        block.lamp(at(5, 0, 1), 12);
        block.lamp(at(0, 0, 0), 7);
        block.lamp(at(5, 5, 5), 9);
        block.lamp(at(3, 3, 3), 1);
        return block;
    }

    private static int volume(int low, int high) {
        return (xOf(high) - xOf(low) + 1) * (yOf(high) - yOf(low) + 1) * (zOf(high) - zOf(low) + 1);
    }

    private static boolean isGoodBox(int low, int high) {
        return low >= 0 && low <= 215 && high >= 0 && high <= 215
            && xOf(low) <= xOf(high) && yOf(low) <= yOf(high) && zOf(low) <= zOf(high);
    }

    private interface Maker {
        LightFlow make();
    }

    private interface CellCall {
        int call(LightFlow block, int cell);
    }

    private interface BoxCall {
        int call(LightFlow block, int low, int high);
    }

    private interface PairCheck {
        void check(int low, int high);
    }

    private static void badCells(Maker maker, CellCall question) {
        LightFlow block = maker.make();
        for (int cell : BAD_CELLS) {
            due("cell " + cell, question.call(block, cell), -1);
        }
    }

    /** Every pair of good cells that is no good box, and pairs with one or two bad cells. */
    private static void badBoxes(BoxCall call) {
        forPairs((low, high) -> {
            if (!isGoodBox(low, high)) {
                due("box " + low + ", " + high, call.call(new LightFlow(), low, high), -1);
            }
        });
        for (int cell : BAD_CELLS) {
            due("box " + cell + ", 215", call.call(new LightFlow(), cell, 215), -1);
            due("box 0, " + cell, call.call(new LightFlow(), 0, cell), -1);
            due("box 215, " + cell, call.call(new LightFlow(), 215, cell), -1);
            due("box " + cell + ", " + cell, call.call(new LightFlow(), cell, cell), -1);
        }
    }

    private static void forPairs(PairCheck check) {
        for (int low = 0; low < 216; low++) {
            for (int high = 0; high < 216; high++) {
                check.check(low, high);
            }
        }
    }

    private record Question(String name, ToIntFunction<LightFlow> answer) {
    }

    private static final List<Question> QUESTIONS = List.of(
        new Question("isSolid", block -> block.isSolid(0)),
        new Question("isSolid of a bad cell", block -> block.isSolid(-1) + block.isSolid(216)),
        new Question("lamplight", block -> block.lamplight(at(4, 0, 1))),
        new Question("lamplight in a wall", block -> block.lamplight(0)),
        new Question("lamplight of a bad cell", block -> block.lamplight(-1) + block.lamplight(216)),
        new Question("skylight", block -> block.skylight(at(4, 3, 1))),
        new Question("skylight of a bad cell", block -> block.skylight(-1) + block.skylight(216)),
        new Question("lit", block -> block.lit(0, 215, 6)),
        new Question("lit with any int", block -> block.lit(0, 215, LEAST) - block.lit(0, 215, GREATEST)),
        new Question("lit of a bad box", block -> block.lit(1, 0, 0) + block.lit(0, 216, 0)),
        new Question("dim", block -> 1000 * block.dim(0) + block.dim(12)),
        new Question("dim of a bad level", block -> block.dim(-1) + block.dim(13)),
        new Question("darkest", block -> block.darkest()),
        new Question("faces", block -> block.faces()),
        new Question("shady", block -> block.shady(6)),
        new Question("shady with any int", block -> block.shady(LEAST) - block.shady(GREATEST)),
        new Question("open", block -> block.open()),
        new Question("serves", block -> block.serves(at(5, 0, 1))),
        new Question("serves in a wall", block -> block.serves(0)),
        new Question("serves without a lamp", block -> block.serves(40)),
        new Question("serves of a bad cell", block -> block.serves(-1) + block.serves(216)),
        new Question("rooms", block -> block.rooms()));

    /** A scene to which this call was made still holds, and answers, what one without it does. */
    private static void leavesTheScene(String name, ToIntFunction<LightFlow> call) {
        LightFlow block = scene();
        call.applyAsInt(block);
        LightFlow twin = scene();
        for (int cell = 0; cell < 216; cell++) {
            // Told by changes, since a question here could hide what the same question did before.
            due("after " + name + ": solid " + cell, block.solid(cell, 0), twin.solid(cell, 0));
            due("after " + name + ": lamp " + cell, block.lamp(cell, 0), twin.lamp(cell, 0));
        }
        for (Question question : QUESTIONS) {
            LightFlow another = scene();
            call.applyAsInt(another);
            int want = question.answer().applyAsInt(scene());
            due("after " + name + ": " + question.name(), question.answer().applyAsInt(another), want);
        }
    }

    // ---- Terms

    private static void call512() {
        LightFlow block = new LightFlow();
        for (int call = 0; call < 511; call++) {
            due("call " + call, block.solid(call % 216, 1), call < 216 ? 0 : 1);
        }
        due("faces as the 512th", block.faces(), 216);
        block = new LightFlow();
        for (int call = 0; call < 511; call++) {
            due("call " + call, block.lamp(77, call % 13), call == 0 ? 0 : (call - 1) % 13);
        }
        due("lamplight as the 512th", block.lamplight(77), 510 % 13);
        block = new LightFlow();
        for (int call = 0; call < 511; call++) {
            due("call " + call, block.fill(0, 215, call % 2), call == 0 ? 0 : 216);
        }
        due("fill as the 512th", block.fill(0, 215, 1), 216);
    }

    private static void numbers() {
        for (int k = 0; k < 6; k++) {
            plane("x = " + k, at(k, 0, 0), at(k, 5, 5), cell -> xOf(cell), k);
            plane("y = " + k, at(0, k, 0), at(5, k, 5), cell -> yOf(cell), k);
            plane("z = " + k, at(0, 0, k), at(5, 5, k), cell -> zOf(cell), k);
        }
    }

    private static void plane(String name, int low, int high, IntUnaryOperator part, int k) {
        LightFlow block = new LightFlow();
        due("fill " + name, block.fill(low, high, 1), 36);
        for (int cell = 0; cell < 216; cell++) {
            due("isSolid " + cell + " of " + name, block.isSolid(cell), part.applyAsInt(cell) == k ? 1 : 0);
        }
    }

    private static void neighboursOfWays() {
        for (int lamp = 0; lamp < 216; lamp++) {
            LightFlow block = new LightFlow();
            block.lamp(lamp, 2);
            for (int cell = 0; cell < 216; cell++) {
                int want = Math.max(0, 2 - apart(lamp, cell));
                due("lamplight " + cell + " by a 2 in " + lamp, block.lamplight(cell), want);
            }
        }
    }

    private static void neighboursOfFaces() {
        forPairs((one, other) -> {
            if (one < other) {
                LightFlow block = new LightFlow();
                block.solid(one, 1);
                block.solid(other, 1);
                due("faces of " + one + " and " + other, block.faces(), apart(one, other) == 1 ? 10 : 12);
            }
        });
    }

    private static void neighboursOfRooms() {
        forPairs((one, other) -> {
            if (one < other) {
                LightFlow block = rock();
                block.solid(one, 0);
                block.solid(other, 0);
                due("rooms of " + one + " and " + other, block.rooms(), apart(one, other) == 1 ? 1 : 2);
            }
        });
    }

    private static void seesSky() {
        for (int z = 0; z < 6; z++) {
            // A shaft open to the sky, with one solid cell in it.
            LightFlow block = rock();
            block.fill(at(2, 3, 0), at(2, 3, 5), 0);
            due("open shaft", block.open(), 6);
            block.solid(at(2, 3, z), 1);
            due("open above " + z, block.open(), 5 - z);
            for (int other = 0; other < 6; other++) {
                int want = other > z ? 8 : 0;
                due("skylight at " + other + " with " + z + " solid", block.skylight(at(2, 3, other)), want);
            }
        }
        LightFlow block = rock();
        block.solid(at(5, 5, 5), 0);
        due("a cell at the top has none above it", block.skylight(215), 8);
        block = rock();
        block.fill(at(3, 3, 0), at(3, 3, 5), 0);
        block.fill(at(2, 3, 5), at(4, 3, 5), 0);
        block.fill(at(3, 2, 5), at(3, 4, 5), 0);
        block.solid(at(3, 3, 5), 1);
        due("only the same x and y", block.open(), 4);
    }

    private static void waysAndSolidCells() {
        LightFlow block = passage(0);
        block.lamp(step(0, 0), 12);
        block.solid(step(4, 0), 1);
        due("before a solid cell", block.lamplight(step(3, 0)), 9);
        due("a solid cell as the last", block.lamplight(step(4, 0)), 0);
        due("a solid cell in the middle", block.lamplight(step(5, 0)), 0);
        block.solid(step(0, 0), 1);
        due("a solid cell as the first", block.lamplight(step(1, 0)), 11);
        due("and on", block.lamplight(step(3, 0)), 9);
        block.solid(step(1, 0), 1);
        due("two solid cells side by side", block.lamplight(step(1, 0)), 0);
        due("and behind them", block.lamplight(step(2, 0)), 0);
        block = new LightFlow();
        block.solid(at(2, 2, 2), 1);
        due("no skylight in a solid cell", block.skylight(at(2, 2, 2)), 0);
        block = passage(0);
        block.fill(at(0, 0, 1), at(0, 0, 5), 0);
        block.solid(step(3, 0), 1);
        due("skylight before a solid cell", block.skylight(step(2, 0)), 6);
        due("skylight behind a solid cell", block.skylight(step(4, 0)), 0);
        block = rock();
        block.lamp(at(2, 2, 2), 12);
        block.solid(at(2, 2, 2), 0);
        due("out of the only free cell", block.lit(0, 215, 1), 1);
        block.solid(at(3, 3, 2), 0);
        due("across an edge there is no way", block.lamplight(at(3, 3, 2)), 0);
    }

    private static void wayOfLength0() {
        LightFlow block = rock();
        for (int strength = 1; strength <= 12; strength++) {
            block.lamp(100, strength);
            due("in rock with strength " + strength, block.lamplight(100), strength);
            due("and nowhere else", block.lit(0, 215, 1), 1);
        }
        block = new LightFlow();
        block.solid(at(2, 2, 2), 1);
        block.lamp(at(2, 2, 2), 3);
        block.lamp(at(3, 2, 2), 12);
        due("its own lamp only", block.lamplight(at(2, 2, 2)), 3);
        block.lamp(at(2, 2, 2), 0);
        due("no lamp of its own", block.lamplight(at(2, 2, 2)), 0);
        block.solid(at(2, 2, 2), 0);
        due("no longer solid", block.lamplight(at(2, 2, 2)), 11);
    }

    private static void lamplightAtLeast0() {
        due("no lamp", new LightFlow().lamplight(0), 0);
        due("no lamp and all solid", rock().lamplight(0), 0);
        for (int strength = 1; strength <= 12; strength++) {
            LightFlow block = passage(0);
            block.lamp(step(0, 0), strength);
            LightFlow air = new LightFlow();
            air.lamp(0, strength);
            for (int k = 0; k <= 15; k++) {
                due("a " + strength + ", " + k + " off", block.lamplight(step(k, 0)), Math.max(0, strength - k));
            }
            for (int cell = 0; cell < 216; cell++) {
                int want = Math.max(0, strength - apart(0, cell));
                due("a " + strength + " in the air, at " + cell, air.lamplight(cell), want);
            }
            due("in rock by a " + strength, block.lamplight(at(2, 2, 0)), 0);
        }
    }

    private static void lamplightGreatest() {
        LightFlow block = passage(0);
        block.lamp(step(0, 0), 12);
        due("the long way", block.lamplight(step(15, 0)), 0);
        due("the long way, not so far", block.lamplight(step(11, 0)), 1);
        block.fill(at(0, 1, 0), at(0, 4, 0), 0);
        due("the shorter of two ways", block.lamplight(step(15, 0)), 7);
        due("the shorter of two ways, further on", block.lamplight(step(11, 0)), 3);
        block = passage(0);
        block.lamp(step(0, 0), 6);
        block.lamp(step(4, 0), 12);
        due("a strong lamp outdoes a weak one in its own cell", block.lamplight(step(0, 0)), 8);
        block.lamp(step(4, 0), 3);
        due("two as strong in one cell", block.lamplight(step(3, 0)), 3);
        due("the near one", block.lamplight(step(4, 0)), 3);
        due("the far one", block.lamplight(step(2, 0)), 4);
    }

    private static void skylightAtLeast0() {
        LightFlow block = passage(0);
        due("no cell sees the sky", block.skylight(step(0, 0)), 0);
        block.fill(at(0, 0, 1), at(0, 0, 5), 0);
        for (int k = 0; k <= 15; k++) {
            due(k + " off", block.skylight(step(k, 0)), Math.max(0, 8 - k));
        }
        due("in rock", block.skylight(at(2, 2, 0)), 0);
        due("all solid", rock().skylight(215), 0);
        due("all free", new LightFlow().skylight(0), 8);
    }

    private static void skylightGreatest() {
        LightFlow block = passage(0);
        block.fill(at(0, 0, 1), at(0, 0, 5), 0);
        block.fill(at(0, 5, 1), at(0, 5, 5), 0);
        for (int k = 0; k <= 15; k++) {
            due("two shafts, " + k + " off the one", block.skylight(step(k, 0)), Math.max(8 - k, 8 - (15 - k)));
        }
    }

    private static void lightIsTheGreater() {
        // The sky gives 8 7 6 .. from the one end, the lamp at step 5 gives its own on both sides.
        LightFlow block = passage(0);
        block.fill(at(0, 0, 1), at(0, 0, 5), 0);
        block.lamp(step(5, 0), 3);
        due("as light by both: dim 3", block.dim(3), 1);
        due("as light by both: lit 3", block.lit(step(5, 0), step(5, 0), 3), 1);
        due("no sum", block.lit(step(5, 0), step(5, 0), 4), 0);
        block.lamp(step(5, 0), 9);
        due("lamp over sky", block.lit(step(5, 0), step(5, 0), 9), 1);
        due("sky over lamp", block.lit(step(0, 0), step(0, 0), 8), 1);
        due("neither more", block.lit(0, 215, 10), 0);
        // By steps: 8 7 6 7 8 9 8 7 6 5 4 3 2 1 0 0, and five more 8s up the shaft.
        int[] counts = {2, 1, 1, 1, 1, 1, 2, 3, 8, 1, 0, 0, 0};
        for (int level = 0; level <= 12; level++) {
            due("dim " + level, block.dim(level), counts[level]);
        }
        due("darkest", block.darkest(), step(15, 0));
        due("serves", block.serves(step(5, 0)), 11);
    }

    private static void questionsChangeNothing() {
        for (Question question : QUESTIONS) {
            leavesTheScene(question.name(), question.answer());
        }
    }

    private static void refusedCallsChangeNothing() {
        int roof = at(0, 0, 3);
        refused("solid -1", -1, block -> block.solid(-1, 1));
        refused("solid 216", -1, block -> block.solid(216, 1));
        refused("solid 216 off", -1, block -> block.solid(216, 0));
        refused("solid 256", -1, block -> block.solid(256, 1));
        refused("fill from -1", -1, block -> block.fill(-1, 215, 1));
        refused("fill to 216", -1, block -> block.fill(0, 216, 1));
        refused("fill to 216 off", -1, block -> block.fill(0, 216, 0));
        refused("fill against x", -1, block -> block.fill(at(3, 0, 0), at(2, 5, 5), 0));
        refused("fill against y", -1, block -> block.fill(at(0, 3, 0), at(5, 2, 5), 0));
        refused("fill against z", -1, block -> block.fill(roof, at(5, 5, 2), 0));
        refused("fill the other way", -1, block -> block.fill(215, 0, 0));
        refused("shell from -1", -1, block -> block.shell(-1, 215));
        refused("shell to 216", -1, block -> block.shell(0, 216));
        refused("shell against x", -1, block -> block.shell(at(4, 0, 4), at(3, 5, 5)));
        refused("shell against y", -1, block -> block.shell(at(0, 4, 4), at(5, 3, 5)));
        refused("shell against z", -1, block -> block.shell(at(0, 0, 5), at(5, 5, 4)));
        refused("lamp in -1", -1, block -> block.lamp(-1, 12));
        refused("lamp in 216", -1, block -> block.lamp(216, 12));
        refused("lamp in 216 away", -1, block -> block.lamp(216, 0));
        refused("lamp -1 for a lamp", -2, block -> block.lamp(at(5, 0, 1), -1));
        refused("lamp 13 for a lamp", -2, block -> block.lamp(at(5, 0, 1), 13));
        refused("lamp 13 where none is", -2, block -> block.lamp(40, 13));
        refused("lamp 256 for a lamp", -2, block -> block.lamp(at(5, 0, 1), 256));
        refused("lamp 13 in 216", -1, block -> block.lamp(216, 13));
    }

    private static void refused(String name, int answer, ToIntFunction<LightFlow> call) {
        due(name, call.applyAsInt(scene()), answer);
        leavesTheScene(name, call);
    }

    private static void orderOfTests() {
        LightFlow block = new LightFlow();
        for (int cell : BAD_CELLS) {
            for (int strength : new int[] {-1, 13, LEAST, GREATEST}) {
                due("lamp " + cell + ", " + strength, block.lamp(cell, strength), -1);
            }
        }
    }

    // ---- Promises 1 to 5

    private static void newWithoutSolidCells() {
        LightFlow block = new LightFlow();
        for (int cell = 0; cell < 216; cell++) {
            due("isSolid " + cell, block.isSolid(cell), 0);
        }
        due("faces", block.faces(), 0);
        due("open", block.open(), 216);
        due("rooms", block.rooms(), 1);
        due("fill", block.fill(0, 215, 0), 0);
    }

    private static void newWithoutLamps() {
        LightFlow block = new LightFlow();
        for (int cell = 0; cell < 216; cell++) {
            due("serves " + cell, block.serves(cell), 0);
            due("lamp " + cell, block.lamp(cell, 0), 0);
        }
        due("all lit by the sky alone", new LightFlow().dim(8), 216);
        due("no lamp in rock", rock().lit(0, 215, 1), 0);
    }

    private static void newBesideOthers() {
        LightFlow older = rock();
        older.lamp(0, 12);
        LightFlow younger = new LightFlow();
        due("open", younger.open(), 216);
        due("lamplight", younger.lamplight(0), 0);
        younger.lamp(0, 3);
        younger.solid(5, 1);
        due("the older one's lamp", older.lamp(0, 12), 12);
        due("the older one's light", older.lamplight(0), 12);
        due("the older one's cells", older.fill(0, 215, 0), 216);
        due("the younger one's cell", younger.isSolid(5), 1);
    }

    private static void solidFlagNot0() {
        for (int flag : FLAGS_NOT_0) {
            LightFlow block = new LightFlow();
            due("solid with " + flag, block.solid(7, flag), 0);
            due("isSolid after " + flag, block.isSolid(7), 1);
            due("solid again with " + flag, block.solid(7, flag), 1);
            due("isSolid after " + flag + " twice", block.isSolid(7), 1);
        }
    }

    private static void solidFlag0() {
        LightFlow block = rock();
        due("solid with 0", block.solid(7, 0), 1);
        due("isSolid", block.isSolid(7), 0);
        due("no other cell", block.fill(0, 215, 1), 1);
    }

    private static void solidBadCell() {
        badCells(LightFlow::new, (block, cell) -> block.solid(cell, 1));
        badCells(LightFlow::new, (block, cell) -> block.solid(cell, 0));
        badCells(BoundariesTest::rock, (block, cell) -> block.solid(cell, 0));
        LightFlow block = new LightFlow();
        due("0 is good", block.solid(0, 1), 0);
        due("215 is good", block.solid(215, 1), 0);
        due("just these two", block.fill(0, 215, 0), 2);
    }

    private static void solidBefore() {
        LightFlow block = new LightFlow();
        for (int cell : new int[] {0, 5, 6, 35, 36, 107, 215}) {
            due("not, stays so " + cell, block.solid(cell, 0), 0);
            due("not, becomes solid " + cell, block.solid(cell, 1), 0);
            due("solid, stays so " + cell, block.solid(cell, 1), 1);
            due("solid, becomes not " + cell, block.solid(cell, 0), 1);
            due("not again " + cell, block.solid(cell, 0), 0);
        }
    }

    private static void fillBoxes() {
        forPairs((low, high) -> {
            if (isGoodBox(low, high)) {
                LightFlow block = new LightFlow();
                due("fill " + low + ", " + high, block.fill(low, high, 1), volume(low, high));
                due("its ends " + low + ", " + high, block.isSolid(low) + block.isSolid(high), 2);
                due("no more than fill " + low + ", " + high, block.fill(0, 215, 0), volume(low, high));
            }
        });
        fillOneBox(at(2, 3, 4), at(2, 3, 4));
        fillOneBox(at(0, 2, 1), at(5, 2, 1));
        fillOneBox(at(1, 0, 2), at(1, 5, 4));
        fillOneBox(at(1, 2, 0), at(4, 3, 5));
        fillOneBox(0, 215);
    }

    private static void fillOneBox(int low, int high) {
        LightFlow block = new LightFlow();
        LightFlow hole = rock();
        block.fill(low, high, 1);
        hole.fill(low, high, 0);
        for (int cell = 0; cell < 216; cell++) {
            int inside = isGoodBox(low, cell) && isGoodBox(cell, high) ? 1 : 0;
            due("isSolid " + cell + " after fill " + low + ", " + high, block.isSolid(cell), inside);
            due("isSolid " + cell + " after fill " + low + ", " + high + ", 0", hole.isSolid(cell), 1 - inside);
        }
    }

    private static void fillFlags() {
        for (int flag : FLAGS_NOT_0) {
            LightFlow block = new LightFlow();
            due("fill with " + flag, block.fill(7, 14, flag), 4);
            due("isSolid after " + flag, block.isSolid(7), 1);
            due("fill again with " + flag, block.fill(7, 14, flag), 0);
            due("fill with 0 after " + flag, block.fill(7, 14, 0), 4);
            due("isSolid after 0", block.isSolid(7), 0);
        }
    }

    private static void fillBadBox() {
        badBoxes((block, low, high) -> block.fill(low, high, 1));
        badBoxes((block, low, high) -> block.fill(low, high, 0));
    }

    private static void fillChanged() {
        LightFlow block = new LightFlow();
        due("none", block.fill(0, 215, 0), 0);
        due("all", block.fill(0, 215, 1), 216);
        due("none again", block.fill(0, 215, 1), 0);
        due("all back", block.fill(0, 215, 0), 216);
        block.solid(at(1, 1, 1), 1);
        due("all but one", block.fill(at(1, 1, 1), at(2, 2, 2), 1), 7);
        block.solid(at(2, 2, 2), 0);
        due("only one", block.fill(at(1, 1, 1), at(2, 2, 2), 1), 1);
        due("half of a box that reaches out", block.fill(at(0, 1, 1), at(1, 2, 2), 1), 4);
        due("all of them away", block.fill(0, 215, 0), 12);
        due("a box of one cell", block.fill(215, 215, 1), 1);
        due("a box of one cell again", block.fill(215, 215, 1), 0);
    }

    private static void shellWalls() {
        shellOneBox(0, 215);
        shellOneBox(at(0, 0, 0), at(2, 2, 2));
        shellOneBox(at(3, 3, 3), at(5, 5, 5));
        shellOneBox(at(1, 0, 2), at(4, 5, 4));
        shellOneBox(at(1, 1, 1), at(2, 5, 5));
        shellOneBox(at(4, 4, 4), at(4, 4, 4));
    }

    private static void shellOneBox(int low, int high) {
        LightFlow block = new LightFlow();
        block.shell(low, high);
        for (int cell = 0; cell < 216; cell++) {
            boolean inside = isGoodBox(low, cell) && isGoodBox(cell, high);
            boolean atAnEnd = xOf(cell) == xOf(low) || xOf(cell) == xOf(high)
                || yOf(cell) == yOf(low) || yOf(cell) == yOf(high)
                || zOf(cell) == zOf(low) || zOf(cell) == zOf(high);
            int want = inside && atAnEnd ? 1 : 0;
            due("isSolid " + cell + " after shell " + low + ", " + high, block.isSolid(cell), want);
        }
    }

    private static void shellBoxes() {
        forPairs((low, high) -> {
            if (isGoodBox(low, high)) {
                int within = Math.max(0, xOf(high) - xOf(low) - 1)
                    * Math.max(0, yOf(high) - yOf(low) - 1)
                    * Math.max(0, zOf(high) - zOf(low) - 1);
                LightFlow block = new LightFlow();
                due("shell " + low + ", " + high, block.shell(low, high), volume(low, high) - within);
                due("the rest of " + low + ", " + high, block.fill(low, high, 1), within);
            }
        });
    }

    private static void shellLeavesTheRest() {
        LightFlow block = new LightFlow();
        block.solid(at(2, 2, 2), 1);
        block.solid(at(0, 0, 0), 1);
        due("shell", block.shell(at(1, 1, 1), at(4, 4, 4)), 56);
        due("solid within stays so", block.isSolid(at(2, 2, 2)), 1);
        due("not solid within stays so", block.isSolid(at(3, 3, 3)), 0);
        due("solid outside stays so", block.isSolid(at(0, 0, 0)), 1);
        due("not solid outside stays so", block.isSolid(at(5, 5, 5)), 0);
        LightFlow full = rock();
        due("shell of rock", full.shell(0, 215), 0);
        due("is rock", full.fill(0, 215, 1), 0);
    }

    private static void shellBadBox() {
        badBoxes((block, low, high) -> block.shell(low, high));
    }

    private static void shellChanged() {
        LightFlow block = new LightFlow();
        due("all walls", block.shell(0, 215), 152);
        due("none", block.shell(0, 215), 0);
        block.solid(215, 0);
        due("only one", block.shell(0, 215), 1);
        due("a box inside", block.shell(at(1, 1, 1), at(4, 4, 4)), 56);
        due("a box that shares walls", block.shell(at(1, 1, 1), at(3, 3, 3)), 7);
        due("a cell within", block.shell(at(3, 3, 3), at(3, 3, 3)), 0);
        due("what is left", block.fill(0, 215, 1), 1);
    }

    private static void lampInPlace() {
        LightFlow block = rock();
        block.lamp(9, 12);
        block.lamp(9, 1);
        due("a weaker one", block.lamplight(9), 1);
        block.lamp(9, 12);
        due("a stronger one", block.lamplight(9), 12);
        due("no lamp beside it", block.lit(0, 215, 1), 1);
    }

    private static void lampTakenAway() {
        LightFlow block = rock();
        block.lamp(9, 12);
        block.lamp(10, 4);
        due("taken", block.lamp(9, 0), 12);
        due("no light", block.lamplight(9), 0);
        due("none to take", block.lamp(9, 0), 0);
        due("the one beside it stays", block.lamplight(10), 4);
    }

    private static void lampBadCell() {
        badCells(LightFlow::new, (block, cell) -> block.lamp(cell, 0));
        badCells(LightFlow::new, (block, cell) -> block.lamp(cell, 1));
        badCells(LightFlow::new, (block, cell) -> block.lamp(cell, 12));
        LightFlow block = rock();
        due("0 is good", block.lamp(0, 3), 0);
        due("215 is good", block.lamp(215, 4), 0);
        due("0 again", block.lamp(0, 3), 3);
        due("215 again", block.lamp(215, 4), 4);
        due("just these two", block.lit(0, 215, 1), 2);
    }

    private static void lampBadStrength() {
        LightFlow block = new LightFlow();
        for (int strength : new int[] {-1, 13, -2, 14, -12, LEAST, LEAST + 1, GREATEST, 256, 268, 65536, -65536}) {
            due("strength " + strength, block.lamp(0, strength), -2);
            due("strength " + strength + " in 215", block.lamp(215, strength), -2);
        }
        due("0 is good", block.lamp(0, 0), 0);
        due("1 is good", block.lamp(0, 1), 0);
        due("12 is good", block.lamp(0, 12), 1);
        due("12 is there", block.lamp(0, 12), 12);
    }

    private static void lampBefore() {
        LightFlow block = new LightFlow();
        for (int strength = 0; strength <= 12; strength++) {
            due("up to " + strength, block.lamp(50, strength), Math.max(0, strength - 1));
        }
        due("the same again", block.lamp(50, 12), 12);
        due("in a lit cell without a lamp", block.lamp(51, 5), 0);
        for (int strength = 11; strength >= 0; strength--) {
            due("down to " + strength, block.lamp(50, strength), strength + 1);
        }
        due("a refused one is not before", block.lamp(50, 13), -2);
        due("still none", block.lamp(50, 3), 0);
        due("a refused one is not before", block.lamp(50, -1), -2);
        due("still 3", block.lamp(50, 0), 3);
    }

    private static void lampStays() {
        LightFlow block = new LightFlow();
        block.lamp(43, 6);
        block.solid(43, 1);
        due("solid", block.lamp(43, 6), 6);
        block.solid(43, 0);
        due("not solid", block.lamp(43, 6), 6);
        block.fill(0, 215, 1);
        due("filled", block.lamp(43, 6), 6);
        block.fill(0, 215, 0);
        due("emptied", block.lamp(43, 6), 6);
        block.shell(43, 172);
        due("in a wall", block.lamp(43, 6), 6);
        due("put into a solid cell", block.lamp(44, 7), 0);
        due("which stays solid", block.isSolid(44), 1);
    }

    // ---- Promises 6 to 9 and 15

    private static void isSolidEdges() {
        LightFlow block = new LightFlow();
        due("0", block.isSolid(0), 0);
        due("215", block.isSolid(215), 0);
        block.solid(0, -5);
        block.solid(215, 7);
        due("0 solid: just 1, whatever the flag", block.isSolid(0), 1);
        due("215 solid", block.isSolid(215), 1);
        due("1 is not", block.isSolid(1), 0);
        due("214 is not", block.isSolid(214), 0);
        block.lamp(1, 12);
        due("a lamp makes nothing solid", block.isSolid(1), 0);
        due("all solid", rock().isSolid(100), 1);
    }

    private static void lamplightEdges() {
        LightFlow block = new LightFlow();
        block.lamp(0, 12);
        block.lamp(215, 1);
        due("0", block.lamplight(0), 12);
        due("215", block.lamplight(215), 1);
        due("214", block.lamplight(214), 0);
        due("1", block.lamplight(1), 11);
    }

    private static void lamplightWithoutSky() {
        LightFlow block = new LightFlow();
        block.lamp(0, 3);
        due("less than the sky", block.lamplight(0), 3);
        due("none far off", block.lamplight(215), 0);
        block.lamp(0, 0);
        due("none at all", block.lamplight(0), 0);
    }

    private static void skylightEdges() {
        LightFlow block = new LightFlow();
        due("0", block.skylight(0), 8);
        due("215", block.skylight(215), 8);
        block.solid(215, 1);
        block.solid(0, 1);
        due("0 solid", block.skylight(0), 0);
        due("215 solid", block.skylight(215), 0);
        due("over 0", block.skylight(36), 8);
        due("under 215", block.skylight(179), 7);
    }

    private static void skylightWithoutLamps() {
        LightFlow block = rock();
        block.lamp(215, 12);
        due("a lamp in rock", block.skylight(215), 0);
        block.solid(214, 0);
        due("beside it", block.skylight(214), 8);
        block.solid(178, 0);
        block.lamp(178, 12);
        due("a lamp that outdoes the sky", block.skylight(178), 8);
    }

    private static void litAtLeast() {
        LightFlow block = passage(0);
        block.lamp(step(0, 0), 12);
        for (int level = 1; level <= 13; level++) {
            due("level " + level, block.lit(0, 215, level), 13 - level);
        }
        due("level 0", block.lit(0, 215, 0), 216);
        due("one cell, just its light", block.lit(0, 0, 12), 1);
        due("one cell, one more", block.lit(0, 0, 13), 0);
        due("the sky, just 8", new LightFlow().lit(0, 215, 8), 216);
        due("the sky, 9", new LightFlow().lit(0, 215, 9), 0);
    }

    private static void litAnyInt() {
        LightFlow block = scene();
        for (int level : new int[] {LEAST, LEAST + 1, -65536, -256, -13, -8, -1, 0}) {
            due("level " + level, block.lit(0, 215, level), 216);
            due("level " + level + " in rock", rock().lit(0, 215, level), 216);
        }
        for (int level : new int[] {13, 14, 256, 264, 65536, 65544, GREATEST - 1, GREATEST}) {
            due("level " + level, block.lit(0, 215, level), 0);
        }
    }

    private static void litBoxes() {
        forPairs((low, high) -> {
            if (isGoodBox(low, high)) {
                due("lit " + low + ", " + high, new LightFlow().lit(low, high, 8), volume(low, high));
            }
        });
        LightFlow block = rock();
        block.lamp(at(2, 2, 2), 5);
        due("a lamp in a solid cell", block.lit(at(2, 2, 2), at(2, 2, 2), 5), 1);
        due("up to it", block.lit(0, at(2, 2, 2), 1), 1);
        due("from it", block.lit(at(2, 2, 2), 215, 1), 1);
        due("beyond it in x", block.lit(at(3, 0, 0), 215, 1), 0);
        due("beyond it in y", block.lit(at(0, 3, 0), 215, 1), 0);
        due("beyond it in z", block.lit(at(0, 0, 3), 215, 1), 0);
        due("before it in x", block.lit(0, at(1, 5, 5), 1), 0);
        due("before it in y", block.lit(0, at(5, 1, 5), 1), 0);
        due("before it in z", block.lit(0, at(5, 5, 1), 1), 0);
        due("all solid, level 0", block.lit(0, 215, 0), 216);
    }

    private static void litBadBox() {
        badBoxes((block, low, high) -> block.lit(low, high, 0));
        badBoxes((block, low, high) -> block.lit(low, high, LEAST));
        badBoxes((block, low, high) -> block.lit(low, high, GREATEST));
    }

    private static void servesLess() {
        LightFlow block = new LightFlow();
        // In the sky's light of 8 a lamp of 8 + n serves the cells less than n off. Within 3 there would be 63,
        // but the three at x = -1, y = -1 and z = -1 are outside.
        int[] wanted = {0, 0, 0, 0, 0, 0, 0, 0, 0, 1, 7, 25, 60};
        for (int strength = 1; strength <= 12; strength++) {
            block.lamp(at(2, 2, 2), strength);
            due("a " + strength + " in the sky's light", block.serves(at(2, 2, 2)), wanted[strength]);
        }
        block = passage(0);
        block.lamp(step(0, 0), 4);
        block.lamp(step(5, 0), 5);
        // By steps: 4 3 2 3 4 5 4 3 2 1, where step 2 has 2 by both.
        due("a tie does not count", block.serves(step(0, 0)), 2);
        due("a tie does not count for the other", block.serves(step(5, 0)), 7);
        block.lamp(step(1, 0), 3);
        due("outdone or matched all along", block.serves(step(1, 0)), 0);
    }

    private static void servesNone() {
        due("no lamp at all", new LightFlow().serves(0), 0);
        due("no lamp at all, 215", new LightFlow().serves(215), 0);
        LightFlow block = passage(0);
        block.lamp(step(0, 0), 12);
        due("beside a lamp", block.serves(step(1, 0)), 0);
        due("in rock", block.serves(at(2, 2, 2)), 0);
        block.lamp(step(0, 0), 0);
        due("taken away", block.serves(step(0, 0)), 0);
    }

    private static void servesEdges() {
        for (int strength = 1; strength <= 12; strength++) {
            LightFlow block = passage(0);
            block.lamp(step(0, 0), strength);
            due("a " + strength, block.serves(step(0, 0)), strength);
            block.solid(step(0, 0), 1);
            due("a " + strength + " in a solid cell", block.serves(step(0, 0)), strength);
            block.fill(0, 215, 1);
            due("a " + strength + " in rock", block.serves(step(0, 0)), 1);
        }
        LightFlow block = passage(5);
        block.lamp(215, 12);
        due("in 215, under the sky", block.serves(215), 7);
    }

    private static void servesTakesNothing() {
        LightFlow block = passage(0);
        block.lamp(step(0, 0), 4);
        due("serves", block.serves(step(0, 0)), 4);
        due("the light after it", block.lamplight(step(0, 0)), 4);
        due("the same again", block.serves(step(0, 0)), 4);
        due("the lamp after it", block.lamp(step(0, 0), 4), 4);
    }

    // ---- Promises 10 to 14 and 16

    private static void dimJust() {
        LightFlow block = passage(0);
        due("all dark", block.dim(0), 16);
        due("none of 1", block.dim(1), 0);
        block.lamp(step(0, 0), 12);
        due("level 0", block.dim(0), 4);
        for (int level = 1; level <= 12; level++) {
            due("level " + level, block.dim(level), 1);
        }
        due("the sky", new LightFlow().dim(8), 216);
        due("less than the sky", new LightFlow().dim(7), 0);
        due("more than the sky", new LightFlow().dim(9), 0);
    }

    private static void dimNotSolid() {
        LightFlow block = rock();
        due("rock is dark, but solid", block.dim(0), 0);
        for (int strength = 1; strength <= 12; strength++) {
            block.lamp(100, strength);
            due("a " + strength + " in rock", block.dim(strength), 0);
        }
        block.solid(100, 0);
        due("a 12 in the one free cell", block.dim(12), 1);
    }

    private static void dimBadLevel() {
        LightFlow block = new LightFlow();
        for (int level : new int[] {-1, 13, -2, 14, LEAST, LEAST + 1, GREATEST, GREATEST - 1, 256, 264, 65544, -248}) {
            due("level " + level, block.dim(level), -1);
            due("level " + level + " in rock", rock().dim(level), -1);
        }
        due("0 is good", block.dim(0), 0);
        due("12 is good", block.dim(12), 0);
    }

    private static void darkestFirst() {
        due("all the same", new LightFlow().darkest(), 0);
        due("all dark", passage(2).darkest(), step(0, 2));
        LightFlow block = passage(0);
        block.lamp(step(0, 0), 12);
        // Dark are (3, 5) .. (0, 5), the steps 12 to 15: the one with the least number is the last of them.
        due("the first in the order of numbers", block.darkest(), at(0, 5, 0));
        block.lamp(at(0, 5, 0), 1);
        due("then the next", block.darkest(), at(1, 5, 0));
        block.lamp(at(2, 5, 0), 2);
        // Now (0, 5) .. (3, 5) have 1 1 2 1 and (4, 5) has 1 from the other lamp.
        due("a tie of 1", block.darkest(), at(0, 5, 0));
    }

    private static void darkestNotSolid() {
        LightFlow block = new LightFlow();
        block.solid(0, 1);
        due("0 is solid, and so darker", block.darkest(), 1);
        for (int only : new int[] {0, 107, 215}) {
            block = rock();
            block.solid(only, 0);
            due("only " + only, block.darkest(), only);
            block.lamp(only, 12);
            due("only " + only + ", as light as can be", block.darkest(), only);
        }
    }

    private static void darkestAllSolid() {
        LightFlow block = rock();
        due("all solid", block.darkest(), -1);
        block.lamp(0, 12);
        due("all solid, with a lamp", block.darkest(), -1);
        block.solid(215, 0);
        due("all but one", block.darkest(), 215);
        block.solid(215, 1);
        due("all solid again", block.darkest(), -1);
    }

    private static void facesPairs() {
        LightFlow block = new LightFlow();
        block.solid(at(1, 2, 2), 1);
        block.solid(at(3, 2, 2), 1);
        due("a free cell between two counts for each", block.faces(), 12);
        block.solid(at(2, 2, 2), 1);
        due("three in a row", block.faces(), 14);
        block = rock();
        block.solid(at(2, 2, 2), 0);
        due("a hole", block.faces(), 216 + 6);
        block.solid(at(2, 2, 3), 0);
        due("two holes side by side", block.faces(), 216 + 10);
        due("a lamp has no faces", lampOnly().faces(), 0);
        block.lamp(at(2, 2, 2), 12);
        block.lamp(at(1, 2, 2), 12);
        due("a lamp covers none", block.faces(), 216 + 10);
    }

    private static LightFlow lampOnly() {
        LightFlow block = new LightFlow();
        block.lamp(100, 12);
        return block;
    }

    private static void facesOutside() {
        for (int cell = 0; cell < 216; cell++) {
            LightFlow block = new LightFlow();
            block.solid(cell, 1);
            due("one solid cell, " + cell, block.faces(), 6);
            int outside = (xOf(cell) % 5 == 0 ? 1 : 0) + (yOf(cell) % 5 == 0 ? 1 : 0) + (zOf(cell) % 5 == 0 ? 1 : 0);
            LightFlow hole = rock();
            hole.solid(cell, 0);
            // Its sides on the outside go, its neighbours' sides come.
            due("one free cell, " + cell, hole.faces(), 216 - outside + (6 - outside));
        }
    }

    private static void facesEmptyAndFull() {
        due("none solid", new LightFlow().faces(), 0);
        due("all solid", rock().faces(), 216);
        LightFlow block = new LightFlow();
        block.shell(0, 215);
        due("only the walls: the outside and the inside of them", block.faces(), 216 + 96);
        block = new LightFlow();
        block.fill(at(1, 1, 1), at(4, 4, 4), 1);
        due("only the inside", block.faces(), 96);
    }

    private static void shadyBelow() {
        for (int z = 0; z < 6; z++) {
            LightFlow block = new LightFlow();
            block.solid(at(2, 2, z), 1);
            due("one solid cell at " + z, block.shady(12), z < 5 ? 1 : 0);
            LightFlow hole = rock();
            hole.solid(at(2, 2, z), 0);
            due("one free cell at " + z, hole.shady(12), z >= 1 ? 1 : 0);
        }
        due("none solid", new LightFlow().shady(12), 0);
        LightFlow floor = new LightFlow();
        floor.fill(0, 35, 1);
        due("all on the lowest layer", floor.shady(12), 36);
        LightFlow roof = new LightFlow();
        roof.fill(180, 215, 1);
        due("nothing is above the highest layer", roof.shady(12), 0);
        LightFlow gap = rock();
        gap.fill(0, 35, 0);
        due("nothing is below the lowest layer", gap.shady(12), 0);
    }

    private static void shadyNotSolid() {
        LightFlow block = rock();
        due("all solid", block.shady(12), 0);
        block.lamp(at(2, 2, 2), 5);
        due("a lamp in rock", block.shady(12), 0);
        block = new LightFlow();
        block.fill(at(2, 2, 0), at(2, 2, 1), 1);
        due("only the one on top of two", block.shady(12), 1);
    }

    private static void shadyAtMost() {
        LightFlow block = passage(1);
        due("all dark", block.shady(0), 16);
        block.lamp(step(0, 1), 12);
        for (int level = 0; level <= 12; level++) {
            due("level " + level, block.shady(level), 4 + level);
        }
        LightFlow air = new LightFlow();
        air.solid(0, 1);
        due("under the sky, 7", air.shady(7), 0);
        due("under the sky, 8", air.shady(8), 1);
    }

    private static void shadyAnyInt() {
        LightFlow block = passage(1);
        block.lamp(step(0, 1), 12);
        for (int level : new int[] {LEAST, LEAST + 1, -65536, -256, -13, -2, -1}) {
            due("level " + level, block.shady(level), 0);
        }
        for (int level : new int[] {12, 13, 14, 256, 65536, GREATEST - 1, GREATEST}) {
            due("level " + level, block.shady(level), 16);
        }
    }

    private static void openNoneToAll() {
        due("all", new LightFlow().open(), 216);
        due("none", rock().open(), 0);
        for (int cell = 0; cell < 216; cell++) {
            LightFlow one = new LightFlow();
            one.solid(cell, 1);
            due("one solid cell, " + cell, one.open(), 216 - (zOf(cell) + 1));
        }
        LightFlow block = new LightFlow();
        block.fill(180, 215, 1);
        due("under a roof", block.open(), 0);
        block.solid(215, 0);
        due("a hole in it", block.open(), 6);
        block.solid(at(5, 5, 0), 1);
        due("and a solid cell at the bottom", block.open(), 5);
        block.fill(0, 179, 1);
        due("only the hole", block.open(), 1);
        due("a lamp hides nothing", lampOnly().open(), 216);
    }

    private static void roomsFewAndMany() {
        due("no cell", rock().rooms(), 0);
        due("all cells", new LightFlow().rooms(), 1);
        for (int odd = 0; odd <= 1; odd++) {
            LightFlow block = new LightFlow();
            for (int cell = 0; cell < 216; cell++) {
                block.solid(cell, (xOf(cell) + yOf(cell) + zOf(cell) + odd) % 2);
            }
            due("every other cell", block.rooms(), 108);
        }
        for (int only : new int[] {0, 100, 215}) {
            LightFlow block = rock();
            block.solid(only, 0);
            due("only " + only, block.rooms(), 1);
        }
        LightFlow block = new LightFlow();
        block.shell(0, 215);
        due("within the walls", block.rooms(), 1);
        block = new LightFlow();
        block.shell(at(1, 1, 1), at(4, 4, 4));
        due("within and without", block.rooms(), 2);
        block.solid(at(1, 1, 1), 0);
        due("a corner of the walls is no door", block.rooms(), 2);
        block.solid(at(1, 2, 2), 0);
        due("a door", block.rooms(), 1);
    }

    private static void roomsLong() {
        due("a bent passage", passage(0).rooms(), 1);
        LightFlow block = new LightFlow();
        // Two walls whose doors are at ends far apart, so that the way winds through the block.
        block.fill(at(0, 0, 1), at(5, 5, 1), 1);
        block.fill(at(0, 0, 3), at(5, 5, 3), 1);
        due("three layers apart", block.rooms(), 3);
        block.solid(at(5, 5, 1), 0);
        due("one door", block.rooms(), 2);
        block.solid(at(0, 0, 3), 0);
        due("two doors", block.rooms(), 1);
        block.solid(at(5, 5, 1), 1);
        due("one shut", block.rooms(), 2);
    }
}
