/** The edges of promises 19 to 23: sheet, lose, put, cell, copy. */
public final class SheetsBoundsTest {
    private static final int MIN = Integer.MIN_VALUE, MAX = Integer.MAX_VALUE;
    private static final long LOST = OneLongRow.LOST;

    public static void main(String[] args) {
        sheetsOfEachNumber();
        lengthsOfSheets();
        refusalsOfSheetInOrder();
        refusedSheetKeepsItsRow();
        newRowsAreOfZeros();
        loseEdges();
        firstAndLastCell();
        cutToTheLane();
        putRefusals();
        cellRefusals();
        cellsOfNothing();
        copiesOfNone();
        copiesOfAll();
        copiesOnTheSame();
        copiesKeepTheRest();
        copyIndexes();
        refusalsOfCopyInOrder();
        Due.end();
    }

    private static Due with(int lane, int many) {
        Due d = new Due("lane " + lane + ", " + many + " cells");
        d.due("sheet", d.x.sheet(0, lane, many), 1);
        return d;
    }

    /** SHEETS 0 .. 3. */
    private static void sheetsOfEachNumber() {
        Due d = new Due("sheets 0 .. 3");
        for (int bad : new int[] {MIN, -1, 4, MAX}) {
            d.due("sheet " + bad, d.x.sheet(bad, 0, 1), -1);
            d.due("lose " + bad, d.x.lose(bad), -1);
            d.due("put " + bad, d.x.put(bad, 0, 1), -1);
            d.due("cell " + bad, d.x.cell(bad, 0, 0), LOST);
            d.due("fault of cell " + bad, d.x.fault(), 0);
            d.due("words " + bad, d.x.words(bad, 0, 0, 0), -1);
            d.due("row " + bad, d.x.row(bad, 0, 0, 0, 0), -1);
        }
        for (int k = 0; k < 4; k++) {
            d.due("sheet " + k, d.x.sheet(k, k % 3, 1), 1);
            d.due("put " + k, d.x.put(k, 0, k + 5), 1);
        }
        for (int k = 0; k < 4; k++) d.due("cell of " + k, d.x.cell(k, 0, k % 3), k + 5);
    }

    /** A row of 0 .. 60 numbers. */
    private static void lengthsOfSheets() {
        for (int lane = 0; lane < 3; lane++) {
            for (int many : new int[] {0, 1, 59, 60}) {
                Due d = with(lane, many);
                d.due("fault", d.x.fault(), 0);
                d.due("it is something", d.x.lose(0), 1);
                d.x.sheet(0, lane, many);
                d.due("the last", d.x.cell(0, many - 1, lane), many == 0 ? LOST : 0);
                d.due("behind the last", d.x.cell(0, many, lane), LOST);
                d.due("fault", d.x.fault(), 3);
            }
            Due d = new Due("lengths in lane " + lane);
            d.due("61", d.x.sheet(0, lane, 61), -2);
            d.due("fault", d.x.fault(), 0);
            d.due("most", d.x.sheet(0, lane, MAX), -2);
            d.due("-1", d.x.sheet(0, lane, -1), -14);
            d.due("fault", d.x.fault(), 4);
            d.due("least", d.x.sheet(0, lane, MIN), -14);
            d.due("there is nothing yet", d.x.lose(0), 0);
        }
    }

    /** UNKNOWN; OUTSIDE: lane, n above 60; SIZE. */
    private static void refusalsOfSheetInOrder() {
        Due d = new Due("promise 19, in their order");
        int[][] calls = {{4, 3, 61, -1, 0}, {-1, -1, -1, -1, 0}, {0, 3, 61, -2, 0}, {0, 3, -1, -2, 0}, {0, -1, -1, -2, 0}, {0, -1, 5, -2, 0}, {0, 3, 5, -2, 0},
            {0, MIN, 5, -2, 0}, {0, MAX, MIN, -2, 0}, {0, 0, 61, -2, 0}, {0, 0, -1, -14, 4}, {3, 2, -1, -14, 4}, {3, 2, 0, 1, 0}};
        for (int[] c : calls) {
            String call = "sheet(" + c[0] + ", " + c[1] + ", " + c[2] + ")";
            d.x.put(1, 0, 0);
            d.due(call, d.x.sheet(c[0], c[1], c[2]), c[3]);
            d.due("fault of " + call, d.x.fault(), c[4]);
        }
    }

    private static void refusedSheetKeepsItsRow() {
        Due d = with(1, 2);
        d.x.put(0, 1, 300);
        int[][] calls = {{0, 0, 61}, {0, 3, 1}, {0, 0, -1}, {0, -1, 60}};
        for (int[] c : calls) {
            d.x.sheet(c[0], c[1], c[2]);
            d.due("its cell", d.x.cell(0, 1, 1), 300);
            d.due("none behind it", d.x.cell(0, 2, 1), LOST);
        }
    }

    /** 0 at first; a new row, of a lane of its own. */
    private static void newRowsAreOfZeros() {
        Due d = with(2, 60);
        for (int i = 0; i < 60; i++) d.x.put(0, i, MAX - i);
        d.x.sheet(0, 0, 60);
        for (int i = 0; i < 60; i++) d.due("cell " + i, d.x.cell(0, i, 0), 0);
        d.due("it is no int row any more", d.x.cell(0, 0, 2), LOST);
        d.due("fault", d.x.fault(), 2);
        d.x.put(0, 59, 7);
        d.x.sheet(0, 0, 59);
        d.x.sheet(0, 0, 60);
        d.due("behind a shorter one", d.x.cell(0, 59, 0), 0);
        d.x.put(0, 0, 7);
        d.x.lose(0);
        d.x.sheet(0, 0, 1);
        d.due("behind nothing", d.x.cell(0, 0, 0), 0);
    }

    /** A SHEET has nothing: 1; 0: it had nothing. */
    private static void loseEdges() {
        for (int k = 0; k < 4; k++) {
            Due d = new Due("promise 20, sheet " + k);
            d.due("nothing at first", d.x.lose(k), 0);
            for (int many : new int[] {0, 1, 60}) {
                d.x.sheet(k, 1, many);
                d.due("a row of " + many, d.x.lose(k), 1);
                d.due("nothing", d.x.lose(k), 0);
            }
            d.x.put(k, 0, 0);
            d.due("fault", d.x.fault(), 1);
            d.x.lose(k);
            d.x.lose(4);
            d.due("lose names no fault", d.x.fault(), 1);
            for (int other = 0; other < 4; other++) d.x.sheet(other, 0, 1);
            d.x.lose(k);
            for (int other = 0; other < 4; other++) d.due("sheet " + other, d.x.lose(other), other == k ? 0 : 1);
        }
    }

    private static void firstAndLastCell() {
        for (int lane = 0; lane < 3; lane++) {
            for (int many : new int[] {1, 2, 60}) {
                Due d = with(lane, many);
                d.due("the first", d.x.put(0, 0, 5), 1);
                d.due("the last", d.x.put(0, many - 1, 6), 1);
                d.due("ahead of the first", d.x.put(0, -1, 8), -13);
                d.due("fault", d.x.fault(), 3);
                d.due("behind the last", d.x.put(0, many, 9), -13);
                d.due("fault", d.x.fault(), 3);
                d.due("the first is", d.x.cell(0, 0, lane), many == 1 ? 6 : 5);
                d.due("the last is", d.x.cell(0, many - 1, lane), 6);
                d.due("fault", d.x.fault(), 0);
                for (int bad : new int[] {MIN, -1, many, MAX}) {
                    d.due("put " + bad, d.x.put(0, bad, 1), -13);
                    d.due("cell " + bad, d.x.cell(0, bad, lane), LOST);
                    d.due("fault", d.x.fault(), 3);
                }
            }
        }
    }

    /** What comes to a cell of it is cut to its LANE. */
    private static void cutToTheLane() {
        int[][] bytes = {{127, 127}, {128, -128}, {-128, -128}, {-129, 127}, {255, -1}, {256, 0}, {-256, 0}, {MAX, -1}, {MIN, 0}, {32768, 0}, {384, -128}};
        int[][] shorts = {{128, 128}, {32767, 32767}, {32768, -32768}, {-32768, -32768}, {-32769, 32767}, {65535, -1}, {65536, 0}, {MAX, -1}, {MIN, 0}};
        int[][] ints = {{32768, 32768}, {65536, 65536}, {MAX, MAX}, {MIN, MIN}, {-1, -1}};
        int[][][] lanes = {bytes, shorts, ints};
        for (int lane = 0; lane < 3; lane++) {
            Due d = with(lane, 3);
            for (int[] one : lanes[lane]) {
                d.due("put " + one[0], d.x.put(0, 1, one[0]), 1);
                d.due("cell of " + one[0], d.x.cell(0, 1, lane), one[1]);
                d.due("the one ahead", d.x.cell(0, 0, lane), 0);
                d.due("the one behind", d.x.cell(0, 2, lane), 0);
            }
        }
    }

    /** UNKNOWN; NULL; INDEX. */
    private static void putRefusals() {
        Due d = with(0, 2);
        int[][] calls = {{4, -1, -1, 0}, {-1, 0, -1, 0}, {1, -1, -11, 1}, {1, 0, -11, 1}, {3, MAX, -11, 1}, {0, -1, -13, 3}, {0, 2, -13, 3}, {0, 1, 1, 0}, {0, 0, 1, 0}};
        for (int[] c : calls) {
            d.due("put " + c[0] + " " + c[1], d.x.put(c[0], c[1], 0), c[2]);
            d.due("fault of put " + c[0] + " " + c[1], d.x.fault(), c[3]);
        }
        d.x.sheet(1, 0, 0);
        d.due("a row of none", d.x.put(1, 0, 0), -13);
        d.due("fault", d.x.fault(), 3);
    }

    /** UNKNOWN, OUTSIDE: lane; FAULTS CAST (nothing is no CAST), NULL, INDEX: all are LOST, fault() tells which. */
    private static void cellRefusals() {
        for (int lane = 0; lane < 3; lane++) {
            Due d = with(lane, 2);
            int other = (lane + 1) % 3;
            int[][] calls = {{4, -1, 3, 0}, {4, 0, lane, 0}, {0, -1, 3, 0}, {0, 0, -1, 0}, {1, 0, 3, 0}, {1, -1, -1, 0}, {0, 0, MIN, 0}, {0, 0, MAX, 0},
                {0, 0, other, 2}, {0, -1, other, 2}, {0, 2, 3 - lane - other, 2}, {1, 0, lane, 1}, {1, -1, other, 1}, {0, -1, lane, 3}, {0, 2, lane, 3}};
            for (int[] c : calls) {
                d.due("cell " + c[0] + " " + c[1] + " " + c[2], d.x.cell(c[0], c[1], c[2]), LOST);
                d.due("fault of cell " + c[0] + " " + c[1] + " " + c[2], d.x.fault(), c[3]);
            }
            d.due("one that is there", d.x.cell(0, 1, lane), 0);
            d.due("fault", d.x.fault(), 0);
        }
    }

    /** Nothing is no CAST: it is NULL, taken as a row of any LANE. */
    private static void cellsOfNothing() {
        for (int lane = 0; lane < 3; lane++) {
            Due d = with(lane, 1);
            d.x.lose(0);
            for (int as = 0; as < 3; as++) {
                d.due("cell", d.x.cell(0, 0, as), LOST);
                d.due("fault", d.x.fault(), 1);
                d.due("words", d.x.words(0, as, 0, 0), -11);
                d.due("row", d.x.row(0, as, 0, 0, 0), -11);
            }
        }
    }

    private static void copiesOfNone() {
        for (int many : new int[] {0, 1, 60}) {
            Due d = with(2, many);
            d.x.sheet(1, 2, 5);
            for (int i : new int[] {0, many}) {
                for (int j : new int[] {0, 5}) d.due("none from " + i + " to " + j, d.x.copy(0, i, 1, j, 0), 0);
            }
            for (int bad : new int[] {MIN, -1, many + 1, MAX}) d.due("none from " + bad, d.x.copy(0, bad, 1, 0, 0), -13);
            for (int bad : new int[] {MIN, -1, 6, MAX}) {
                d.due("none to " + bad, d.x.copy(0, 0, 1, bad, 0), -13);
                d.due("fault", d.x.fault(), 3);
            }
        }
    }

    private static void copiesOfAll() {
        for (int lane = 0; lane < 3; lane++) {
            Due d = with(lane, 60);
            d.x.sheet(3, lane, 60);
            for (int i = 0; i < 60; i++) d.x.put(0, i, i - 30);
            d.due("all", d.x.copy(0, 0, 3, 0, 60), 60);
            d.due("fault", d.x.fault(), 0);
            for (int i = 0; i < 60; i++) d.due("cell " + i, d.x.cell(3, i, lane), i - 30);
            d.x.put(0, 0, 99);
            d.due("they are two rows", d.x.cell(3, 0, lane), -30);
            d.due("all and one", d.x.copy(0, 0, 3, 0, 61), -13);
            d.due("all, from 1 on", d.x.copy(0, 1, 3, 0, 60), -13);
            d.due("all, to 1 on", d.x.copy(0, 0, 3, 1, 60), -13);
            d.due("all on itself", d.x.copy(3, 0, 3, 0, 60), 60);
            d.due("the last", d.x.cell(3, 59, lane), 29);
        }
    }

    /** To another one (perhaps the same), as they were. */
    private static void copiesOnTheSame() {
        for (int lane = 0; lane < 3; lane++) {
            for (int i = 0; i <= 5; i++) {
                for (int j = 0; j <= 5; j++) {
                    for (int n = 0; n <= 5 - Math.max(i, j); n++) {
                        Due d = with(lane, 5);
                        for (int c = 0; c < 5; c++) d.x.put(0, c, c + 1);
                        d.due("copy " + i + " " + j + " " + n, d.x.copy(0, i, 0, j, n), n);
                        for (int c = 0; c < 5; c++) {
                            int due = c >= j && c < j + n ? c - j + i + 1 : c + 1;
                            d.due("cell " + c + " behind copy " + i + " " + j + " " + n, d.x.cell(0, c, lane), due);
                        }
                    }
                }
            }
        }
    }

    private static void copiesKeepTheRest() {
        Due d = with(1, 4);
        d.x.sheet(1, 1, 3);
        for (int c = 0; c < 4; c++) d.x.put(0, c, 10 + c);
        for (int c = 0; c < 3; c++) d.x.put(1, c, 20 + c);
        d.due("the last to the middle", d.x.copy(0, 3, 1, 1, 1), 1);
        int[] due = {20, 13, 22};
        for (int c = 0; c < 3; c++) d.due("cell " + c, d.x.cell(1, c, 1), due[c]);
        for (int c = 0; c < 4; c++) d.due("the first row's cell " + c, d.x.cell(0, c, 1), 10 + c);
    }

    /** INDEX: i, j, n below 0 or beyond. */
    private static void copyIndexes() {
        Due d = with(0, 4);
        d.x.sheet(1, 0, 3);
        for (int c = 0; c < 3; c++) d.x.put(1, c, 20 + c);
        int[][] calls = {{-1, 0, 1}, {0, -1, 1}, {0, 0, -1}, {0, 0, 4}, {2, 0, 3}, {0, 1, 3}, {4, 0, 1}, {0, 3, 1},
            {5, 0, 0}, {0, 4, 0}, {MIN, 0, 1}, {MAX, 0, 1}, {0, MIN, 1}, {0, MAX, 1}, {0, 0, MIN}, {0, 0, MAX},
            {1, 1, MAX}, {MAX, MAX, MAX}, {MIN, MIN, MIN}, {4, 3, MIN}};
        for (int[] c : calls) {
            d.due("copy " + c[0] + " " + c[1] + " " + c[2], d.x.copy(0, c[0], 1, c[1], c[2]), -13);
            d.due("fault", d.x.fault(), 3);
        }
        for (int c = 0; c < 3; c++) d.due("cell " + c + " is as it was", d.x.cell(1, c, 0), 20 + c);
        d.due("the last three", d.x.copy(0, 1, 1, 0, 3), 3);
        d.due("fault", d.x.fault(), 0);
        d.due("the first three", d.x.copy(0, 0, 1, 0, 3), 3);
        d.due("none at both ends", d.x.copy(0, 4, 1, 3, 0), 0);
    }

    /** UNKNOWN; FAULTS NULL (the first, the other), CAST (unlike LANES), INDEX. */
    private static void refusalsOfCopyInOrder() {
        Due d = with(0, 2);
        d.x.sheet(1, 1, 2);
        d.x.sheet(2, 2, 2);
        int[][] calls = {{4, 0, 0, 0, 1, -1, 0}, {0, 0, 4, 0, 1, -1, 0}, {-1, 0, 3, 0, -1, -1, 0}, {3, 0, -1, 0, -1, -1, 0}, {3, 9, 0, 9, -1, -11, 1},
            {0, 9, 3, 9, -1, -11, 1}, {3, 0, 3, 0, 0, -11, 1}, {0, -1, 1, 0, 1, -12, 2}, {1, 0, 0, 9, 1, -12, 2}, {2, 0, 0, 0, 0, -12, 2}, {1, 0, 2, 0, -1, -12, 2},
            {2, 0, 1, 0, 2, -12, 2}, {0, 0, 0, 0, 3, -13, 3}, {2, -1, 2, 0, 0, -13, 3}, {1, 0, 1, 0, 2, 2, 0}};
        for (int[] c : calls) {
            String call = "copy(" + c[0] + ", " + c[1] + ", " + c[2] + ", " + c[3] + ", " + c[4] + ")";
            d.due(call, d.x.copy(c[0], c[1], c[2], c[3], c[4]), c[5]);
            d.due("fault of " + call, d.x.fault(), c[6]);
        }
    }
}
