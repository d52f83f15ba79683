/** Promises 19 to 23: sheet, lose, put, cell, copy. */
public final class SheetsTest {
    private static final int MIN = Integer.MIN_VALUE, MAX = Integer.MAX_VALUE;
    private static final long LOST = OneLongRow.LOST;

    public static void main(String[] args) {
        sheets();
        lost();
        cells();
        copies();
        copiesRefused();
        Due.end();
    }

    private static void sheets() {
        Due d = new Due("promise 19");
        int[][] calls = {{-1, 9, -1, -1, 0}, {4, 0, 1, -1, 0}, {0, 3, -1, -2, 0}, {0, -1, 1, -2, 0}, {0, 0, 61, -2, 0}, {0, 0, MAX, -2, 0},
            {0, 0, -1, -14, 4}, {3, 2, MIN, -14, 4}, {0, 0, 60, 1, 0}, {0, 1, 0, 1, 0}, {3, 2, 60, 1, 0}};
        for (int[] c : calls) {
            String call = "sheet(" + c[0] + ", " + c[1] + ", " + c[2] + ")";
            d.x.cell(0, -1, 0);
            d.due(call, d.x.sheet(c[0], c[1], c[2]), c[3]);
            d.due("fault of " + call, d.x.fault(), c[4]);
        }
        d.x.sheet(1, 1, 3);
        d.x.put(1, 2, 7);
        d.x.sheet(1, 1, -1);
        d.due("changes nothing", d.x.cell(1, 2, 1), 7);
        d.x.sheet(1, 3, 3);
        d.due("changes nothing", d.x.cell(1, 2, 1), 7);
        d.x.sheet(1, 1, 3);
        d.due("zero at first", d.x.cell(1, 2, 1), 0);
        d.due("the other is its own", d.x.cell(3, 59, 2), 0);
    }

    private static void lost() {
        Due d = new Due("promise 20");
        for (int bad : new int[] {-1, 4, MIN, MAX}) d.due("lose " + bad, d.x.lose(bad), -1);
        d.due("nothing", d.x.lose(2), 0);
        d.x.sheet(2, 2, 0);
        d.x.put(1, 0, 0);
        d.due("something", d.x.lose(2), 1);
        d.due("nothing again", d.x.lose(2), 0);
        d.due("lose names no fault", d.x.fault(), 1);
        d.due("put", d.x.put(2, 0, 0), -11);
    }

    private static void cells() {
        Due d = new Due("promises 21, 22");
        int[] puts = {0, 1, -1, 127, 128, 200, 255, 256, -128, -129, 32767, 32768, 65535, -32769, 70000, MIN, MAX};
        for (int v : puts) {
            d.x.sheet(0, 0, 2);
            d.x.sheet(1, 1, 2);
            d.x.sheet(2, 2, 2);
            for (int lane = 0; lane < 3; lane++) d.due("put " + v, d.x.put(lane, 1, v), 1);
            d.due("byte " + v, d.x.cell(0, 1, 0), (byte) v);
            d.due("short " + v, d.x.cell(1, 1, 1), (short) v);
            d.due("int " + v, d.x.cell(2, 1, 2), v);
            d.due("beside", d.x.cell(2, 0, 2), 0);
        }
        int[][] putsRefused = {{-1, 0, -1, 0}, {4, 9, -1, 0}, {3, 9, -11, 1}, {0, 2, -13, 3}, {0, -1, -13, 3}, {0, MIN, -13, 3}, {0, MAX, -13, 3}, {0, 0, 1, 0}};
        for (int[] c : putsRefused) {
            d.due("put " + c[0] + " " + c[1], d.x.put(c[0], c[1], 1), c[2]);
            d.due("fault of put " + c[0] + " " + c[1], d.x.fault(), c[3]);
        }
        int[][] cellsRefused = {{-1, 0, 0, 0}, {4, 9, 9, 0}, {0, 0, 3, 0}, {3, 0, -1, 0}, {0, 9, 1, 2}, {2, 0, 0, 2}, {3, 9, 1, 1}, {0, 2, 0, 3},
            {0, -1, 0, 3}, {1, MAX, 1, 3}, {2, MIN, 2, 3}};
        for (int[] c : cellsRefused) {
            d.due("cell " + c[0] + " " + c[1] + " " + c[2], d.x.cell(c[0], c[1], c[2]), LOST);
            d.due("fault of cell " + c[0] + " " + c[1] + " " + c[2], d.x.fault(), c[3]);
        }
        d.x.cell(0, 0, 0);
        d.due("no fault", d.x.fault(), 0);
    }

    private static void fill(Due d, int k, int lane, int n) {
        d.x.sheet(k, lane, n);
        for (int c = 0; c < n; c++) d.x.put(k, c, 10 * k + c + 1);
    }

    private static void holds(Due d, String what, int k, int lane, int... due) {
        for (int c = 0; c < due.length; c++) d.due(what + ", cell " + c, d.x.cell(k, c, lane), due[c]);
    }

    private static void copies() {
        Due d = new Due("promise 23");
        for (int lane = 0; lane < 3; lane++) {
            fill(d, 0, lane, 5);
            fill(d, 1, lane, 3);
            d.due("to another", d.x.copy(0, 3, 1, 1, 2), 2);
            holds(d, "another", 1, lane, 11, 4, 5);
            holds(d, "the first", 0, lane, 1, 2, 3, 4, 5);
            d.due("none at the ends", d.x.copy(0, 5, 1, 3, 0), 0);
            d.due("onward", d.x.copy(0, 0, 0, 1, 4), 4);
            holds(d, "onward", 0, lane, 1, 1, 2, 3, 4);
            d.due("backward", d.x.copy(0, 1, 0, 0, 4), 4);
            holds(d, "backward", 0, lane, 1, 2, 3, 4, 4);
            d.due("fault", d.x.fault(), 0);
        }
    }

    private static void copiesRefused() {
        Due d = new Due("promise 23, refusals");
        fill(d, 0, 0, 5);
        fill(d, 1, 0, 3);
        d.x.sheet(2, 1, 3);
        int[][] calls = {{4, 0, 0, 0, 0, -1, 0}, {0, 0, -1, 0, 0, -1, 0}, {3, 0, 4, 0, 0, -1, 0}, {3, 9, 0, 0, 0, -11, 1}, {0, 9, 3, 0, 0, -11, 1},
            {3, 0, 3, 0, -1, -11, 1}, {2, 0, 0, 9, -1, -12, 2}, {0, 9, 2, 0, 0, -12, 2}, {0, -1, 1, 0, 0, -13, 3}, {0, 0, 1, -1, 0, -13, 3},
            {0, 0, 1, 0, -1, -13, 3}, {0, 6, 1, 0, 0, -13, 3}, {0, 0, 1, 4, 0, -13, 3}, {0, 4, 1, 0, 2, -13, 3}, {0, 0, 1, 2, 2, -13, 3},
            {0, 0, 1, 0, 4, -13, 3}, {0, 1, 1, 0, MAX, -13, 3}, {0, MAX, 1, 0, 1, -13, 3}, {0, 0, 1, MAX, 1, -13, 3}, {0, 0, 1, 0, MIN, -13, 3},
            {0, MIN, 1, MIN, MAX, -13, 3}};
        for (int[] c : calls) {
            String call = "copy(" + c[0] + ", " + c[1] + ", " + c[2] + ", " + c[3] + ", " + c[4] + ")";
            d.x.cell(0, -1, 0);
            d.due(call, d.x.copy(c[0], c[1], c[2], c[3], c[4]), c[5]);
            d.due("fault of " + call, d.x.fault(), c[6]);
            holds(d, "unchanged", 0, 0, 1, 2, 3, 4, 5);
            holds(d, "unchanged", 1, 0, 11, 12, 13);
        }
    }
}
