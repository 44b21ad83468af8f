/**
 * Promise by promise: ordinary inputs, the edges that the document names, and wrong inputs. A call
 * that is refused is looked at twice: that its refusal is counted, and that nothing else changed.
 */
public final class PromiseTests extends Checks {
    public static void main(String[] args) {
        newObject();
        cell();
        cellOf();
        inner();
        place();
        placeRefused();
        take();
        at();
        studs();
        pieces();
        piece();
        pieceOf();
        stands();
        key();
        weak();
        sound();
        grip();
        fit();
        seams();
        cover();
        coverSeams();
        coverAt();
        lay();
        box();
        lacking();
        lacks();
        order();
        orderEdges();
        seen();
        brickOf();
        count();
        calmAnswers();
        end();
    }

    private static void newObject() {
        tested = "promise 1";
        BrickModels m = new BrickModels();
        int sum = 0;
        for (int i = 0; i < 180; i++) {
            sum += m.cellOf(i % 6, i / 6 % 6, i / 36);
        }
        due("the sum of all COLOURS", sum, 0);
        due("at(0, 0, 0)", m.at(0, 0, 0), -9);
        due("pieces()", m.pieces(), 0);
        due("sound()", m.sound(), 1);
        due("inner()", m.inner(), 0);
        due("seams(false)", m.seams(false), 0);
        due("seams(true)", m.seams(true), 0);
        due("order(0)", m.order(0), -9);
        due("lacking()", m.lacking(), 0);
        due("seen(4, 0, 0)", m.seen(4, 0, 0), 0);
        due("cover(1, 0)", m.cover(1, 0), 0);
        for (int kind = 0; kind < 7; kind++) {
            due("lacks", m.lacks(kind), 0);
            due("box", m.box(kind, 0), 0);
        }
        for (int what = 0; what <= 16; what++) {
            due("count(" + what + ")", m.count(what), what == 5 ? 8 : what > 5 && what < 11 ? -9 : 0);
        }
    }

    private static void cell() {
        tested = "promise 2";
        BrickModels m = new BrickModels();
        due("the first", m.cell(0, 0, 0, 1), 0);
        due("the last", m.cell(5, 5, 4, 5), 0);
        due("again", m.cell(0, 0, 0, 5), 1);
        due("none", m.cell(0, 0, 0, 0), 5);
        due("none again", m.cell(0, 0, 0, 0), 0);
        due("the last again", m.cell(5, 5, 4, 1), 5);
        due("count(0)", m.count(0), 1);
        int[][] bad = {{-1, 0, 0, 1}, {6, 0, 0, 1}, {0, -1, 0, 1}, {0, 6, 0, 1}, {0, 0, -1, 1}, {0, 0, 5, 1},
            {0, 0, 0, -1}, {0, 0, 0, 6}, {LOWEST, 0, 0, 1}, {0, HIGHEST, 0, 1}, {0, 0, HIGHEST, 1}, {0, 0, 0, LOWEST}};
        for (int[] b : bad) {
            refused("cell", PromiseTests::some, x -> x.cell(b[0], b[1], b[2], b[3]), -1);
        }
    }

    private static void cellOf() {
        tested = "promise 3";
        BrickModels m = new BrickModels();
        m.cell(0, 5, 0, 2);
        m.cell(5, 0, 4, 3);
        due("cellOf(0, 5, 0)", m.cellOf(0, 5, 0), 2);
        due("cellOf(5, 0, 4)", m.cellOf(5, 0, 4), 3);
        due("cellOf(5, 0, 0)", m.cellOf(5, 0, 0), 0);
        due("cellOf(0, 0, 4)", m.cellOf(0, 0, 4), 0);
        int[][] bad = {{-1, 0, 0}, {6, 0, 0}, {0, -1, 0}, {0, 6, 0}, {0, 0, -1}, {0, 0, 5}, {HIGHEST, HIGHEST, HIGHEST}};
        for (int[] b : bad) {
            refused("cellOf", PromiseTests::some, x -> x.cellOf(b[0], b[1], b[2]), -1);
        }
    }

    private static void inner() {
        tested = "promise 4";
        BrickModels m = new BrickModels();
        for (int i = 0; i < 180; i++) {
            m.cell(i % 6, i / 6 % 6, i / 36, 1 + i % 5);
        }
        due("of a full body", m.inner(), 4 * 4 * 3);
        m.cell(2, 2, 2, 0);
        due("without one in the middle and its six neighbours", m.inner(), 48 - 7);
        m.cell(0, 1, 1, 0);
        due("without one at the edge, too", m.inner(), 48 - 7 - 1);
        m.cell(2, 2, 2, 4);
        m.cell(2, 2, 0, 0);
        due("with a hole in the ground", m.inner(), 48 - 2);
        BrickModels cross = new BrickModels();
        int[][] arms = {{2, 3, 3}, {4, 3, 3}, {3, 2, 3}, {3, 4, 3}, {3, 3, 2}, {3, 3, 4}};
        for (int[] a : arms) {
            cross.cell(a[0], a[1], a[2], 1);
        }
        due("of six around none", cross.inner(), 0);
        cross.cell(3, 3, 3, 5);
        due("of six around one", cross.inner(), 1);
    }

    private static void place() {
        tested = "promise 5";
        int[] lengths = {1, 2, 3, 4, 2, 3, 4};
        int[] widths = {1, 1, 1, 1, 2, 2, 2};
        for (int kind = 0; kind < 7; kind++) {
            for (int turn = 0; turn < 2; turn++) {
                BrickModels m = new BrickModels();
                int wide = turn == 0 ? lengths[kind] : widths[kind];
                int deep = turn == 0 ? widths[kind] : lengths[kind];
                due("in the last corner", m.place(kind, turn, 6 - wide, 6 - deep, 4, 5), 0);
                for (int i = 0; i < 180; i++) {
                    boolean in = i % 6 >= 6 - wide && i / 6 % 6 >= 6 - deep && i / 36 == 4;
                    due("at of KIND " + kind + " TURN " + turn, m.at(i % 6, i / 6 % 6, i / 36), in ? 0 : -9);
                }
                int k = kind;
                int t = turn;
                refused("one x further", PromiseTests::nothing, x -> x.place(k, t, 7 - wide, 0, 0, 1), wide == 1 ? -1 : -6);
                refused("one y further", PromiseTests::nothing, x -> x.place(k, t, 0, 7 - deep, 0, 1), deep == 1 ? -1 : -6);
            }
        }
        BrickModels m = new BrickModels();
        due("the first", m.place(0, 0, 0, 0, 0, 1), 0);
        due("beside it", m.place(0, 1, 1, 0, 0, 1), 1);
        due("above it, in the air", m.place(0, 1, 0, 0, 4, 1), 2);
        m.take(0);
        due("where one is GONE", m.place(3, 1, 0, 0, 0, 1), 3);
        due("its number", m.at(0, 0, 0), 3);
        BrickModels full = new BrickModels();
        for (int i = 0; i < 40; i++) {
            due("the 40", full.place(0, 0, i % 6, i / 6 % 6, i / 36, 1), i);
        }
        due("the 40th", full.at(3, 0, 1), 39);
        due("one behind", full.place(0, 0, 0, 0, 4, 1), -6);
        full.take(0);
        due("one behind, though one is GONE", full.place(0, 0, 0, 0, 0, 1), -6);
    }

    private static void placeRefused() {
        int[][] nobody = {{-1, 0, 0, 0, 0, 1}, {7, 0, 0, 0, 0, 1}, {0, -1, 0, 0, 0, 1}, {0, 2, 0, 0, 0, 1},
            {0, 0, 0, 0, 0, 0}, {0, 0, 0, 0, 0, 6}, {0, 0, -1, 0, 0, 1}, {0, 0, 6, 0, 0, 1}, {0, 0, 0, -1, 0, 1},
            {0, 0, 0, 6, 0, 1}, {0, 0, 0, 0, -1, 1}, {0, 0, 0, 0, 5, 1}, {6, 0, HIGHEST, 0, 0, 1},
            {6, 0, 0, HIGHEST, 0, 1}, {LOWEST, HIGHEST, LOWEST, HIGHEST, LOWEST, HIGHEST}, {3, 0, 5, 0, 0, 0}};
        for (int[] b : nobody) {
            refused("place of nobody", PromiseTests::some, x -> x.place(b[0], b[1], b[2], b[3], b[4], b[5]), -1);
            refused("place of nobody, no room", PromiseTests::forty, x -> x.place(b[0], b[1], b[2], b[3], b[4], b[5]), -1);
        }
        refused("beyond and overlapping", PromiseTests::forty, x -> x.place(3, 0, 3, 0, 0, 1), -6);
        refused("overlapping, no room", PromiseTests::forty, x -> x.place(0, 0, 3, 0, 0, 1), -3);
        refused("overlapping with its end", PromiseTests::some, x -> x.place(6, 1, 3, 1, 1, 1), -3);
        refused("the 41st", PromiseTests::forty, x -> x.place(0, 0, 3, 0, 3, 1), -6);
    }

    private static void take() {
        tested = "promise 6";
        BrickModels m = new BrickModels();
        some(m);
        due("take(0)", m.take(0), 1);
        due("at", m.at(0, 0, 0), -9);
        due("at another CELL of it", m.at(1, 1, 0), -9);
        due("the one above", m.at(0, 0, 1), 1);
        due("brickOf(0, 6)", m.brickOf(0, 6), 1);
        due("count(1)", m.count(1), 2);
        due("count(2)", m.count(2), 4);
        due("pieces()", m.pieces(), 2);
        refused("take(-1)", PromiseTests::some, x -> x.take(-1), -1);
        refused("take(4)", PromiseTests::some, x -> x.take(4), -1);
        refused("take of the lowest", PromiseTests::some, x -> x.take(LOWEST), -1);
        refused("take of the highest", PromiseTests::some, x -> x.take(HIGHEST), -1);
        refused("take(40)", PromiseTests::forty, x -> x.take(40), -1);
        refused("take(3)", PromiseTests::some, x -> x.take(3), -3);
        BrickModels full = new BrickModels();
        forty(full);
        due("take(39)", full.take(39), 1);
    }

    private static void at() {
        tested = "promise 7";
        BrickModels m = new BrickModels();
        some(m);
        due("at(0, 0, 0)", m.at(0, 0, 0), 0);
        due("at(2, 0, 0)", m.at(2, 0, 0), -9);
        due("at(3, 1, 1)", m.at(3, 1, 1), 1);
        due("at(4, 1, 1)", m.at(4, 1, 1), -9);
        due("at(5, 5, 3)", m.at(5, 5, 3), 2);
        due("at(4, 4, 0) where one is GONE", m.at(4, 4, 0), -9);
        due("count(11)", m.count(11), 0);
        int[][] bad = {{-1, 0, 0}, {6, 0, 0}, {0, -1, 0}, {0, 6, 0}, {0, 0, -1}, {0, 0, 5}, {LOWEST, 0, 0}};
        for (int[] b : bad) {
            refused("at", PromiseTests::some, x -> x.at(b[0], b[1], b[2]), -1);
        }
    }

    private static void studs() {
        tested = "promise 8";
        BrickModels m = new BrickModels();
        some(m);
        due("studs(0, 1)", m.studs(0, 1), 4);
        due("studs(1, 0)", m.studs(1, 0), 4);
        due("studs of far ones", m.studs(0, 2), 0);
        m.place(6, 0, 0, 0, 2, 1);
        due("studs of two 2 by 4", m.studs(1, 4), 8);
        due("studs with a LAYER between", m.studs(0, 4), 0);
        m.place(6, 1, 3, 1, 3, 1);
        due("studs of one x, y", m.studs(5, 4), 1);
        m.place(0, 0, 2, 0, 0, 1);
        due("studs beside one another", m.studs(0, 6), 0);
        refused("studs(0, 0)", PromiseTests::some, x -> x.studs(0, 0), -1);
        refused("studs(3, 3) of GONE", PromiseTests::some, x -> x.studs(3, 3), -1);
        refused("studs(3, 4) of GONE and nobody", PromiseTests::some, x -> x.studs(3, 4), -1);
        refused("studs(4, 0)", PromiseTests::some, x -> x.studs(4, 0), -1);
        refused("studs(0, -1)", PromiseTests::some, x -> x.studs(0, -1), -1);
        refused("studs(0, 3)", PromiseTests::some, x -> x.studs(0, 3), -3);
        refused("studs(3, 0)", PromiseTests::some, x -> x.studs(3, 0), -3);
    }

    private static void pieces() {
        tested = "promise 9";
        BrickModels m = new BrickModels();
        m.place(6, 0, 0, 0, 0, 1);
        m.place(6, 0, 0, 2, 0, 1);
        due("two on the ground, side by side", m.pieces(), 2);
        m.place(6, 1, 0, 0, 1, 1);
        due("with one over both", m.pieces(), 1);
        m.place(0, 0, 0, 0, 3, 1);
        due("with one in the air", m.pieces(), 2);
        m.place(0, 0, 0, 0, 2, 1);
        due("with one between", m.pieces(), 1);
        m.take(2);
        due("without the one over both", m.pieces(), 3);
        BrickModels full = new BrickModels();
        forty(full);
        due("of 40", full.pieces(), 36);
    }

    private static void piece() {
        tested = "promise 10";
        BrickModels m = new BrickModels();
        m.place(0, 0, 5, 5, 4, 1);
        m.place(0, 0, 0, 0, 0, 1);
        m.place(0, 0, 3, 3, 0, 1);
        m.place(0, 0, 5, 5, 3, 1);
        due("piece(0)", m.piece(0), 0);
        due("piece(1)", m.piece(1), 1);
        due("piece(2)", m.piece(2), 2);
        due("piece(3)", m.piece(3), 0);
        m.take(0);
        due("piece(3), the other is GONE", m.piece(3), 2);
        due("piece(1)", m.piece(1), 0);
        refused("piece(-1)", PromiseTests::some, x -> x.piece(-1), -1);
        refused("piece(4)", PromiseTests::some, x -> x.piece(4), -1);
        refused("piece(3)", PromiseTests::some, x -> x.piece(3), -3);
        refused("piece(0) of none", PromiseTests::nothing, x -> x.piece(0), -1);
    }

    private static void pieceOf() {
        tested = "promise 11";
        BrickModels m = new BrickModels();
        some(m);
        int[] first = {12, 0, 1, 2};
        int[] second = {1, 1, 0, 1};
        for (int what = 0; what < 4; what++) {
            due("pieceOf(0, " + what + ")", m.pieceOf(0, what), first[what]);
            due("pieceOf(1, " + what + ")", m.pieceOf(1, what), second[what]);
        }
        refused("pieceOf(2, 0)", PromiseTests::some, x -> x.pieceOf(2, 0), -1);
        refused("pieceOf(-1, 0)", PromiseTests::some, x -> x.pieceOf(-1, 0), -1);
        refused("pieceOf(2, 9)", PromiseTests::some, x -> x.pieceOf(2, 9), -1);
        refused("pieceOf of the highest", PromiseTests::some, x -> x.pieceOf(HIGHEST, 9), -1);
        refused("pieceOf(0, 0) of none", PromiseTests::nothing, x -> x.pieceOf(0, 0), -1);
        refused("pieceOf(0, -1)", PromiseTests::some, x -> x.pieceOf(0, -1), -2);
        refused("pieceOf(1, 4)", PromiseTests::some, x -> x.pieceOf(1, 4), -2);
        BrickModels full = new BrickModels();
        forty(full);
        due("the last of 36", full.pieceOf(35, 3), 1);
        due("the first of 36", full.pieceOf(0, 3), 2);
        due("one behind", full.pieceOf(36, 3), -1);
        BrickModels one = new BrickModels();
        one.place(0, 0, 0, 0, 4, 1);
        due("the only one", one.pieceOf(0, 1), 1);
        due("one behind the only one", one.pieceOf(1, 1), -1);
        due("sound() of the only one, which FLOATS", one.sound(), 0);
    }

    private static void stands() {
        BrickModels m = new BrickModels();
        m.place(1, 0, 0, 0, 0, 1);
        m.place(2, 0, 1, 0, 1, 1);
        m.place(0, 0, 2, 0, 2, 1);
        due("the middle above the border", m.pieceOf(0, 2), 1);
        m.take(2);
        m.place(0, 0, 3, 0, 2, 1);
        due("the middle a sixth beyond it", m.pieceOf(0, 2), 0);
        BrickModels hair = new BrickModels();
        hair.place(1, 0, 0, 0, 0, 1);
        hair.place(3, 0, 1, 0, 1, 1);
        hair.place(0, 0, 0, 0, 1, 1);
        due("the middle a fourteenth beyond it", hair.pieceOf(0, 2), 0);
        BrickModels along = new BrickModels();
        along.place(1, 1, 0, 4, 0, 1);
        along.place(2, 1, 0, 2, 1, 1);
        along.place(0, 0, 0, 3, 2, 1);
        due("the middle above the border at the least y", along.pieceOf(0, 2), 1);
        along.take(2);
        along.place(0, 0, 0, 2, 2, 1);
        due("the middle a sixth beyond it", along.pieceOf(0, 2), 0);
        BrickModels slant = new BrickModels();
        slant.place(0, 0, 0, 0, 0, 1);
        slant.place(0, 0, 1, 1, 0, 1);
        slant.place(4, 0, 0, 0, 1, 1);
        slant.place(3, 0, 1, 0, 2, 1);
        due("the middle above a slant border", slant.pieceOf(0, 2), 1);
        due("sound()", slant.sound(), 1);
        slant.place(0, 0, 2, 0, 3, 1);
        due("the middle beyond it, but not beyond x, y of the corners", slant.pieceOf(0, 2), 0);
        due("sound()", slant.sound(), 0);
        BrickModels bridge = new BrickModels();
        bridge.place(0, 0, 0, 0, 0, 1);
        bridge.place(0, 0, 3, 0, 0, 1);
        bridge.place(3, 0, 0, 0, 1, 1);
        due("the middle between two feet", bridge.pieceOf(0, 2), 1);
        bridge.take(1);
        due("with one foot", bridge.pieceOf(0, 2), 0);
        bridge.place(0, 0, 5, 0, 0, 1);
        due("a foot of another PIECE doesn't help", bridge.pieceOf(0, 2), 0);
    }

    private static void key() {
        tested = "promise 12";
        BrickModels m = new BrickModels();
        m.place(0, 0, 0, 0, 0, 1);
        m.place(3, 0, 0, 0, 1, 1);
        due("the foot: what is left is one PIECE", m.key(0), 0);
        due("the top", m.key(1), 0);
        m.place(0, 0, 3, 0, 0, 1);
        due("over two feet", m.key(1), 1);
        m.place(3, 0, 0, 0, 2, 1);
        due("below another", m.key(1), 1);
        m.place(0, 0, 3, 0, 3, 1);
        due("below a last one", m.key(3), 1);
        due("the last one", m.key(4), 0);
        due("count(3)", m.count(3), 2);
        BrickModels air = new BrickModels();
        air.place(3, 0, 0, 0, 3, 1);
        air.place(0, 0, 0, 0, 2, 1);
        air.place(0, 0, 3, 0, 4, 1);
        due("in the air", air.key(0), 1);
        due("alone", new BrickModels().place(0, 0, 0, 0, 0, 1), 0);
        BrickModels ring = new BrickModels();
        ring.place(3, 0, 0, 0, 0, 1);
        ring.place(0, 0, 0, 0, 1, 1);
        ring.place(0, 0, 3, 0, 1, 1);
        ring.place(3, 0, 0, 0, 2, 1);
        for (int b = 0; b < 4; b++) {
            due("of a ring", ring.key(b), 0);
        }
        refused("key(-1)", PromiseTests::some, x -> x.key(-1), -1);
        refused("key(4)", PromiseTests::some, x -> x.key(4), -1);
        refused("key(3)", PromiseTests::some, x -> x.key(3), -3);
    }

    private static void weak() {
        tested = "promise 13";
        BrickModels m = new BrickModels();
        m.place(4, 0, 2, 2, 0, 1);
        m.place(6, 0, 1, 2, 1, 1);
        m.place(6, 1, 1, 0, 2, 1);
        due("weak(1), 8 by 4 STUDS", m.weak(1), 0);
        m.place(6, 1, 4, 2, 2, 1);
        due("weak(1), 8 by 2 STUDS, too", m.weak(1), 0);
        m.grip(3);
        due("weak(1) with GRIP 3", m.weak(1), 1);
        m.grip(4);
        due("weak(1) with GRIP 4", m.weak(1), 0);
        m.place(0, 0, 4, 5, 3, 1);
        due("weak(1) with one CELL more", m.weak(1), 1);
        m.grip(1);
        due("weak(1) with GRIP 1", m.weak(1), 2);
        due("weak(0): no KEY", m.weak(0), 0);
        due("weak(3): what HANGS BY it HOLDS", m.weak(3), 0);
        m.take(0);
        due("weak(1): the PIECE FLOATS", m.weak(1), 0);
        BrickModels feet = new BrickModels();
        feet.grip(1);
        feet.place(6, 0, 0, 0, 0, 1);
        feet.place(0, 0, 3, 0, 1, 1);
        feet.place(6, 1, 3, 0, 2, 1);
        feet.place(6, 0, 1, 2, 3, 1);
        due("a KEY by which much HANGS", feet.weak(1), 1);
        feet.place(0, 0, 4, 3, 0, 1);
        feet.place(0, 0, 4, 3, 1, 1);
        due("a KEY no more", feet.weak(1), 0);
        BrickModels two = new BrickModels();
        two.grip(2);
        two.place(3, 0, 0, 0, 0, 1);
        two.place(3, 0, 0, 0, 1, 1);
        two.place(2, 1, 0, 0, 2, 1);
        two.place(2, 1, 3, 0, 2, 1);
        due("two that HANG apart, 3 by 1 each", two.weak(1), 2);
        two.place(3, 0, 0, 0, 3, 1);
        due("made one, 10 by 2", two.weak(1), 1);
        two.grip(5);
        due("made one, 10 by 2, GRIP 5", two.weak(1), 0);
        two.take(4);
        two.grip(3);
        due("two that HANG apart, GRIP 3", two.weak(1), 0);
        refused("weak(-1)", PromiseTests::some, x -> x.weak(-1), -1);
        refused("weak(4)", PromiseTests::some, x -> x.weak(4), -1);
        refused("weak(3)", PromiseTests::some, x -> x.weak(3), -3);
    }

    private static void sound() {
        tested = "promise 14";
        BrickModels m = new BrickModels();
        due("no BRICKS", m.sound(), 1);
        m.place(0, 0, 0, 0, 0, 1);
        due("one", m.sound(), 1);
        m.place(0, 0, 5, 5, 1, 1);
        due("one FLOATS", m.sound(), 0);
        m.place(0, 0, 5, 5, 0, 1);
        due("it HANGS by the ground", m.sound(), 1);
        m.place(2, 1, 5, 2, 2, 1);
        due("another FLOATS", m.sound(), 0);
        m.take(3);
        m.place(2, 1, 5, 3, 2, 1);
        due("one HANGS beyond its foot but STANDS not", m.sound(), 0);
        m.place(2, 0, 3, 3, 0, 1);
        due("a foot that doesn't HANG with it", m.sound(), 0);
        m.place(0, 0, 5, 3, 1, 1);
        due("one that does", m.sound(), 1);
        BrickModels held = new BrickModels();
        held.place(6, 0, 0, 0, 0, 1);
        held.place(0, 0, 1, 0, 1, 1);
        held.place(6, 0, 0, 0, 2, 1);
        held.grip(7);
        due("8 CELLS by one STUD, GRIP 7: the KEY is the small one", held.sound(), 0);
        held.grip(8);
        due("GRIP 8", held.sound(), 1);
    }

    private static void grip() {
        tested = "promise 15";
        BrickModels m = new BrickModels();
        due("the first", m.grip(1), 8);
        due("the least", m.grip(40), 1);
        due("the greatest", m.grip(40), 40);
        due("count(5)", m.count(5), 40);
        refused("grip(0)", PromiseTests::some, x -> x.grip(0), -4);
        refused("grip of the lowest", PromiseTests::some, x -> x.grip(LOWEST), -4);
        refused("grip(41)", PromiseTests::some, x -> x.grip(41), -6);
        refused("grip of the highest", PromiseTests::some, x -> x.grip(HIGHEST), -6);
    }

    private static void fit() {
        tested = "promise 16";
        BrickModels m = new BrickModels();
        for (int z = 0; z < 3; z++) {
            cells(m, z, 2, "###", "###", "###");
        }
        due("MISSING all", m.fit(0), 27);
        m.place(2, 0, 0, 1, 1, 1);
        due("MISSING", m.fit(0), 24);
        due("WRONG but the INNER one", m.fit(1), 2);
        due("BEYOND", m.fit(2), 0);
        m.cell(1, 1, 2, 0);
        due("WRONG: the INNER one is seen", m.fit(1), 3);
        due("MISSING one less", m.fit(0), 23);
        m.place(3, 0, 0, 0, 4, 2);
        due("BEYOND", m.fit(2), 4);
        m.place(3, 0, 0, 0, 0, 2);
        due("MISSING", m.fit(0), 20);
        due("BEYOND with one more", m.fit(2), 5);
        due("WRONG as ahead", m.fit(1), 3);
        m.take(0);
        due("WRONG none", m.fit(1), 0);
        m.cell(0, 0, 0, 3);
        due("WRONG by the body's change", m.fit(1), 1);
        refused("fit(-1)", PromiseTests::some, x -> x.fit(-1), -2);
        refused("fit(3)", PromiseTests::some, x -> x.fit(3), -2);
    }

    private static void seams() {
        tested = "promise 17";
        BrickModels m = new BrickModels();
        m.place(4, 0, 0, 0, 0, 1);
        m.place(4, 0, 2, 0, 0, 1);
        due("two beside one another", m.seams(false), 2);
        due("over none", m.seams(true), 0);
        m.place(4, 0, 0, 0, 1, 1);
        m.place(4, 0, 2, 0, 1, 1);
        due("four", m.seams(false), 4);
        due("two over two", m.seams(true), 2);
        m.place(6, 0, 0, 2, 0, 1);
        due("by y, too", m.seams(false), 8);
        m.place(6, 0, 0, 2, 1, 1);
        due("by y, too, over", m.seams(true), 6);
        m.take(0);
        due("SEAMS without one", m.seams(false), 8);
        due("over without one", m.seams(true), 2);
        m.place(0, 0, 5, 5, 4, 1);
        m.place(0, 0, 0, 5, 4, 1);
        due("no SEAM around the edge", m.seams(false), 8);
        BrickModels full = new BrickModels();
        forty(full);
        due("of 40", full.seams(false), 60 + 3);
        due("of 40, over", full.seams(true), 3);
    }

    private static final String[] FOUR = {"####", "####", "####", "####"};

    private static void cover() {
        tested = "promise 18";
        BrickModels m = new BrickModels();
        due("without CELLS", m.cover(5, 4), 0);
        cells(m, 0, 1, FOUR);
        due("16 CELLS", m.cover(1, 0), 2);
        due("of another COLOUR", m.cover(2, 0), 0);
        due("of another LAYER", m.cover(1, 1), 0);
        m.cell(5, 5, 0, 1);
        due("17 CELLS", m.cover(1, 0), -6);
        m.place(0, 0, 5, 5, 0, 3);
        due("17, of which one is covered", m.cover(1, 0), 2);
        m.cell(3, 3, 0, 0);
        due("15 CELLS", m.cover(1, 0), 3);
        BrickModels odd = new BrickModels();
        cells(odd, 4, 5, ".#.", "###", ".#.");
        due("a cross", odd.cover(5, 4), 3);
        BrickModels singles = new BrickModels();
        cells(singles, 2, 3, "#.#.#.", ".#.#.#", "#.#.#.", ".#.#.#", "#.#.#.", ".#");
        due("16 CELLS none beside another", singles.cover(3, 2), 16);
        BrickModels row = new BrickModels();
        cells(row, 0, 1, "######");
        due("a row of 6", row.cover(1, 0), 2);
        int[][] bad = {{0, 0}, {6, 0}, {-1, 0}, {1, -1}, {1, 5}, {HIGHEST, LOWEST}};
        for (int[] b : bad) {
            refused("cover", PromiseTests::some, x -> x.cover(b[0], b[1]), -1);
            refused("coverSeams", PromiseTests::some, x -> x.coverSeams(b[0], b[1]), -1);
            refused("coverAt", PromiseTests::some, x -> x.coverAt(b[0], b[1], 0), -1);
            refused("lay", PromiseTests::some, x -> x.lay(b[0], b[1]), -1);
        }
        Setup many = x -> cells(x, 0, 1, "####", "####", "####", "#####");
        refused("cover of 17", many, x -> x.cover(1, 0), -6);
        refused("coverSeams of 17", many, x -> x.coverSeams(1, 0), -6);
        refused("coverAt of 17", many, x -> x.coverAt(1, 0, 0), -6);
        refused("coverAt of 17, -1st", many, x -> x.coverAt(1, 0, -1), -6);
        refused("lay of 17", many, x -> x.lay(1, 0), -6);
    }

    private static void coverSeams() {
        tested = "promise 19";
        BrickModels m = new BrickModels();
        m.place(6, 0, 0, 0, 0, 1);
        m.place(6, 0, 0, 2, 0, 1);
        cells(m, 1, 1, FOUR);
        due("across the SEAMS below", m.coverSeams(1, 1), 0);
        due("told: TURN 1 first", m.coverAt(1, 1, 0), 16);
        m.place(6, 1, 0, 0, 2, 1);
        m.place(6, 1, 2, 0, 2, 1);
        due("SEAMS below or above", m.coverSeams(1, 1), 4);
        due("told: TURN 0 first", m.coverAt(1, 1, 0), 6);
        m.take(0);
        due("SEAMS above alone: TURN 0", m.coverAt(1, 1, 0), 6);
        due("SEAMS above alone", m.coverSeams(1, 1), 0);
        m.lay(1, 1);
        due("the model's SEAMS over SEAMS", m.seams(true), 0);
        BrickModels fewest = new BrickModels();
        fewest.place(1, 0, 0, 0, 0, 1);
        fewest.place(2, 0, 2, 0, 0, 1);
        cells(fewest, 1, 1, "#####");
        due("two, by 4 and 1, not over the SEAM", fewest.coverAt(1, 1, 0), 3);
        due("none", fewest.coverSeams(1, 1), 0);
        fewest.place(3, 0, 0, 0, 2, 1);
        fewest.place(0, 0, 4, 0, 2, 1);
        due("two, by 3 and 2", fewest.coverAt(1, 1, 0), 2);
        fewest.cell(5, 0, 1, 1);
        fewest.place(0, 0, 5, 0, 0, 1);
        due("six by two KINDS 2", fewest.coverAt(1, 1, 0), 2);
        BrickModels beside = new BrickModels();
        beside.place(0, 0, 0, 0, 0, 1);
        beside.place(0, 0, 1, 0, 0, 1);
        beside.place(0, 0, 0, 0, 1, 1);
        beside.cell(1, 0, 1, 1);
        due("with a BRICK that is there", beside.coverSeams(1, 1), 1);
        beside.place(0, 0, 0, 0, 2, 1);
        beside.place(0, 0, 1, 0, 2, 1);
        due("and with those above", beside.coverSeams(1, 1), 2);
        int before = beside.seams(true);
        beside.lay(1, 1);
        due("as many as the model has more", beside.seams(true) - before, 2);
        due("without CELLS", beside.coverSeams(1, 1), 0);
    }

    private static void coverAt() {
        tested = "promise 20";
        BrickModels m = new BrickModels();
        cells(m, 0, 1, "......", ".###..", ".###..", ".###..", "......", "#....#");
        due("coverAt 0", m.coverAt(1, 0, 0), 1105);
        due("coverAt 1", m.coverAt(1, 0, 1), 3102);
        due("coverAt 2", m.coverAt(1, 0, 2), 5000);
        due("coverAt 3", m.coverAt(1, 0, 3), 5500);
        due("coverAt 4", m.coverAt(1, 0, 4), -9);
        due("coverAt -1", m.coverAt(1, 0, -1), -9);
        due("coverAt of the lowest", m.coverAt(1, 0, LOWEST), -9);
        due("coverAt of the highest", m.coverAt(1, 0, HIGHEST), -9);
        due("coverAt without CELLS", m.coverAt(2, 0, 0), -9);
        BrickModels turned = new BrickModels();
        cells(turned, 3, 4, "##", "##", "##", "##", "#");
        due("2 by 4, TURN 1", turned.coverAt(4, 3, 0), 16);
        due("the one behind it", turned.coverAt(4, 3, 1), 4000);
        BrickModels square = new BrickModels();
        cells(square, 0, 1, "##", "##");
        due("a square is told with TURN 0", square.coverAt(1, 0, 0), 4);
        square.cell(0, 0, 0, 2);
        due("a change is seen: the greatest KIND first", square.coverAt(1, 0, 0), 111);
        due("a change is seen, the second", square.coverAt(1, 0, 1), 1000);
        BrickModels hole = new BrickModels();
        cells(hole, 0, 1, "###", "#.#", "###");
        due("around a hole", hole.cover(1, 0), 4);
        due("around a hole, the first", hole.coverAt(1, 0, 0), 2);
        due("around a hole, the second", hole.coverAt(1, 0, 1), 1011);
    }

    private static void lay() {
        tested = "promise 21";
        BrickModels m = new BrickModels();
        cells(m, 2, 4, "####", "####", "#");
        due("lay(4, 2)", m.lay(4, 2), 2);
        int[] first = {6, 0, 0, 0, 2, 4, 0};
        int[] second = {0, 0, 0, 2, 2, 4, 0};
        for (int what = 0; what < 7; what++) {
            due("brickOf(0, " + what + ")", m.brickOf(0, what), first[what]);
            due("brickOf(1, " + what + ")", m.brickOf(1, what), second[what]);
        }
        due("nothing is left", m.lay(4, 2), 0);
        due("fit(0)", m.fit(0), 0);
        due("count(2)", m.count(2), 2);
        Setup full = x -> {
            forty(x);
            x.take(0);
            x.cell(0, 0, 0, 1);
        };
        refused("lay of the 41st", full, x -> x.lay(1, 0), -6);
        Setup almost = x -> {
            for (int i = 0; i < 39; i++) {
                x.place(0, 0, i % 6, i / 6 % 6, i / 36, 1);
            }
            x.cell(0, 0, 4, 1);
            x.cell(2, 0, 4, 1);
        };
        refused("lay of the 40th and the 41st: none is", almost, x -> x.lay(1, 4), -6);
        BrickModels last = new BrickModels();
        almost.on(last);
        last.cell(2, 0, 4, 0);
        due("lay of the 40th", last.lay(1, 4), 1);
        due("its number", last.at(0, 0, 4), 39);
        due("lay of none at 40", last.lay(1, 4), 0);
    }

    private static void box() {
        tested = "promise 22";
        BrickModels m = new BrickModels();
        due("the first KIND", m.box(0, 99), 0);
        due("the last KIND", m.box(6, 1), 0);
        due("again", m.box(0, 0), 99);
        due("again", m.box(0, 7), 0);
        due("the last again", m.box(6, 99), 1);
        refused("box(-1, 0)", PromiseTests::some, x -> x.box(-1, 0), -1);
        refused("box(7, 0)", PromiseTests::some, x -> x.box(7, 0), -1);
        refused("box(7, -1)", PromiseTests::some, x -> x.box(7, -1), -1);
        refused("box(7, 100)", PromiseTests::some, x -> x.box(7, 100), -1);
        refused("box(1, -1)", PromiseTests::some, x -> x.box(1, -1), -4);
        refused("box of the lowest", PromiseTests::some, x -> x.box(1, LOWEST), -4);
        refused("box(1, 100)", PromiseTests::some, x -> x.box(1, 100), -6);
        refused("box of the highest", PromiseTests::some, x -> x.box(6, HIGHEST), -6);
    }

    private static void lacking() {
        tested = "promise 23";
        int[][] parts = {null, {0, 0}, {0, 1}, {1, 1}, {1, 1}, {2, 2}, {4, 4}};
        for (int kind = 1; kind < 7; kind++) {
            BrickModels m = new BrickModels();
            m.place(kind, 0, 0, 0, 0, 1);
            due("KIND " + kind + ", an empty BOX", m.lacking(), 1);
            m.box(parts[kind][0], 1);
            due("KIND " + kind + ", one part", m.lacking(), 1);
            m.box(parts[kind][1], parts[kind][0] == parts[kind][1] ? 2 : 1);
            due("KIND " + kind + ", both parts", m.lacking(), 0);
            m.place(parts[kind][1], 0, 0, 4, 0, 1);
            due("KIND " + kind + ", one part is needed", m.lacking(), 1);
            m.box(kind, 1);
            due("KIND " + kind + " is there", m.lacking(), kind == parts[kind][1] ? 1 : 0);
        }
        BrickModels again = new BrickModels();
        again.place(6, 0, 0, 0, 0, 1);
        again.box(1, 99);
        due("parts are not made again", again.lacking(), 1);
        BrickModels rival = new BrickModels();
        rival.place(4, 0, 0, 0, 0, 1);
        rival.place(3, 0, 0, 2, 0, 1);
        rival.place(2, 0, 0, 3, 0, 1);
        rival.box(1, 3);
        rival.box(0, 1);
        due("4 takes two, 3 gets none, 2 takes what is left", rival.lacking(), 1);
        rival.box(1, 4);
        due("3 takes them ahead of 2", rival.lacking(), 1);
        due("2 is LACKING", rival.lacks(2), 1);
        due("3 is not", rival.lacks(3), 0);
        rival.take(0);
        due("GONE: no NEED", rival.lacking(), 0);
    }

    private static void lacks() {
        tested = "promise 24";
        BrickModels m = new BrickModels();
        m.place(0, 0, 0, 0, 0, 1);
        m.place(0, 0, 1, 0, 0, 1);
        m.place(6, 0, 0, 1, 0, 1);
        due("lacks(0)", m.lacks(0), 2);
        due("lacks(6)", m.lacks(6), 1);
        due("lacks(3)", m.lacks(3), 0);
        m.box(0, 1);
        due("lacks(0) with one", m.lacks(0), 1);
        m.box(0, 99);
        m.box(4, 2);
        due("lacks(0) with 99", m.lacks(0), 0);
        due("lacks(6) with two 4", m.lacks(6), 0);
        m.place(6, 0, 0, 3, 0, 1);
        due("lacks(6) of two", m.lacks(6), 1);
        refused("lacks(-1)", PromiseTests::some, x -> x.lacks(-1), -1);
        refused("lacks(7)", PromiseTests::some, x -> x.lacks(7), -1);
    }

    private static void order() {
        tested = "promise 25";
        BrickModels m = new BrickModels();
        m.place(4, 0, 0, 0, 2, 1);
        m.place(4, 0, 0, 0, 1, 1);
        m.place(4, 0, 0, 0, 0, 1);
        for (int k = 0; k < 3; k++) {
            due("a tower from the ground", m.order(k), 2 - k);
        }
        due("behind the last", m.order(3), -9);
        due("ahead of the first", m.order(-1), -9);
        m.place(0, 0, 5, 5, 0, 1);
        due("the first by numbers", m.order(0), 2);
        due("the last by numbers", m.order(3), 3);
        m.take(1);
        due("what FLOATS has no ORDER", m.order(0), -9);
        BrickModels arch = new BrickModels();
        arch.place(0, 0, 2, 0, 0, 1);
        arch.place(3, 0, 2, 0, 1, 1);
        arch.place(3, 0, 0, 0, 2, 1);
        due("SOUND as a whole", arch.sound(), 1);
        due("but not step by step", arch.order(0), -9);
        arch.place(0, 0, 5, 0, 0, 1);
        due("with a foot", arch.order(0), 0);
        due("the foot comes ahead", arch.order(1), 3);
        due("then what it holds", arch.order(2), 1);
        BrickModels lid = new BrickModels();
        lid.place(6, 0, 0, 0, 0, 1);
        lid.place(2, 1, 0, 0, 1, 1);
        lid.place(2, 1, 0, 0, 2, 1);
        lid.place(0, 0, 0, 2, 0, 1);
        int[] due = {0, 3, 1, 2};
        for (int k = 0; k < 4; k++) {
            due("what another one covers comes ahead of it", lid.order(k), due[k]);
        }
        BrickModels far = new BrickModels();
        far.place(1, 1, 0, 0, 0, 1);
        far.place(1, 1, 0, 0, 1, 1);
        far.place(2, 1, 0, 0, 2, 1);
        far.place(0, 0, 0, 2, 0, 1);
        int[] farDue = {0, 1, 3, 2};
        for (int k = 0; k < 4; k++) {
            due("covered from two LAYERS above", far.order(k), farDue[k]);
        }
    }

    private static void orderEdges() {
        BrickModels m = new BrickModels();
        due("a model without BRICKS", m.order(0), -9);
        Setup twelve = x -> {
            for (int i = 0; i < 12; i++) {
                x.place(0, 0, i % 6, 5 - i / 6, 0, 1);
            }
        };
        twelve.on(m);
        for (int k = 0; k < 12; k++) {
            due("of 12", m.order(k), k);
        }
        due("behind 12", m.order(12), -9);
        due("of the highest", m.order(HIGHEST), -9);
        due("of the lowest", m.order(LOWEST), -9);
        Setup thirteen = x -> {
            twelve.on(x);
            x.place(0, 0, 0, 0, 0, 1);
        };
        refused("of 13", thirteen, x -> x.order(0), -6);
        refused("of 13, behind them", thirteen, x -> x.order(99), -6);
        m.place(0, 0, 0, 0, 0, 1);
        m.take(0);
        due("of 12 that are there, one GONE", m.order(0), 1);
        due("the last of them", m.order(11), 12);
        BrickModels held = new BrickModels();
        held.place(6, 0, 0, 0, 0, 1);
        held.place(0, 0, 1, 0, 1, 1);
        held.place(6, 0, 0, 0, 2, 1);
        due("GRIP 8", held.order(2), 2);
        held.grip(7);
        due("GRIP 7", held.order(2), -9);
        held.grip(8);
        due("GRIP 8 again", held.order(2), 2);
        BrickModels late = new BrickModels();
        late.place(0, 0, 1, 0, 0, 1);
        late.place(0, 0, 1, 0, 1, 1);
        late.place(2, 0, 0, 0, 2, 1);
        late.place(3, 0, 1, 5, 0, 1);
        late.grip(2);
        due("no ORDER, as the small one doesn't HOLD", late.order(0), -9);
        late.grip(3);
        due("the ORDER", late.order(3), 3);
    }

    private static void seen() {
        tested = "promise 26";
        BrickModels m = new BrickModels();
        m.place(0, 0, 1, 1, 0, 1);
        m.place(0, 0, 4, 1, 0, 2);
        m.place(0, 0, 1, 3, 0, 3);
        m.place(0, 0, 1, 1, 3, 4);
        due("from y below 0", m.seen(0, 1, 0), 1);
        due("from x above 5", m.seen(1, 1, 0), 2);
        due("from y above 5", m.seen(2, 1, 0), 3);
        due("from x below 0", m.seen(3, 1, 0), 1);
        due("from above", m.seen(4, 1, 1), 4);
        due("from above, another", m.seen(4, 1, 3), 3);
        due("from above, turned round", m.seen(4, 3, 1), 0);
        due("none", m.seen(0, 0, 0), 0);
        due("another LAYER", m.seen(2, 1, 3), 4);
        due("y of side 1", m.seen(1, 3, 0), 3);
        due("y of side 3, none", m.seen(3, 4, 0), 0);
        m.take(0);
        due("behind what is GONE", m.seen(0, 1, 0), 3);
        BrickModels corner = new BrickModels();
        corner.place(0, 0, 5, 5, 4, 5);
        for (int side = 0; side < 5; side++) {
            due("the last corner", corner.seen(side, 5, side == 4 ? 5 : 4), 5);
            due("the first corner", corner.seen(side, 0, 0), 0);
        }
        refused("seen(-1, 0, 0)", PromiseTests::some, x -> x.seen(-1, 0, 0), -2);
        refused("seen(5, 9, 9)", PromiseTests::some, x -> x.seen(5, 9, 9), -2);
        for (int i = 0; i < 5; i++) {
            int side = i;
            refused("seen with u -1", PromiseTests::some, x -> x.seen(side, -1, 0), -1);
            refused("seen with u 6", PromiseTests::some, x -> x.seen(side, 6, 0), -1);
            refused("seen with v -1", PromiseTests::some, x -> x.seen(side, 0, -1), -1);
            refused("seen with v too high", PromiseTests::some, x -> x.seen(side, 0, side == 4 ? 6 : 5), -1);
        }
    }

    private static void brickOf() {
        tested = "promise 27";
        BrickModels m = new BrickModels();
        some(m);
        int[][] want = {{4, 0, 0, 0, 0, 1, 0}, {6, 0, 0, 0, 1, 2, 0}, {0, 1, 5, 5, 3, 3, 0}, {1, 1, 4, 4, 0, 4, 1}};
        for (int brick = 0; brick < 4; brick++) {
            for (int what = 0; what < 7; what++) {
                due("brickOf(" + brick + ", " + what + ")", m.brickOf(brick, what), want[brick][what]);
            }
        }
        refused("brickOf(-1, 0)", PromiseTests::some, x -> x.brickOf(-1, 0), -1);
        refused("brickOf(4, 0)", PromiseTests::some, x -> x.brickOf(4, 0), -1);
        refused("brickOf(4, 7)", PromiseTests::some, x -> x.brickOf(4, 7), -1);
        refused("brickOf(0, 7)", PromiseTests::some, x -> x.brickOf(0, 7), -2);
        refused("brickOf(3, -1)", PromiseTests::some, x -> x.brickOf(3, -1), -2);
        refused("brickOf(40, 0)", PromiseTests::forty, x -> x.brickOf(40, 0), -1);
    }

    private static void count() {
        tested = "promise 28";
        BrickModels m = new BrickModels();
        some(m);
        int[] want = {4, 3, 4, 0, 1, 2};
        for (int what = 0; what < want.length; what++) {
            due("count(" + what + ")", m.count(what), want[what]);
        }
        m.cellOf(6, 0, 0);
        m.fit(3);
        m.fit(-1);
        m.take(3);
        m.grip(0);
        m.grip(-1);
        m.grip(41);
        m.box(0, 100);
        m.box(0, 1000);
        int[] refusals = {1, 2, 1, 2, 0, 3};
        for (int i = 0; i < 6; i++) {
            due("count(" + (11 + i) + ")", m.count(11 + i), refusals[i]);
        }
        int[] other = {-1, 6, 7, 8, 9, 10, 17, LOWEST, HIGHEST};
        for (int what : other) {
            due("count(" + what + ")", m.count(what), -9);
        }
        due("count(11) behind them", m.count(11), 1);
        due("count(12) behind them", m.count(12), 2);
    }

    /** Answers of -9 are no REFUSALS. */
    private static void calmAnswers() {
        BrickModels m = new BrickModels();
        some(m);
        m.at(5, 5, 4);
        m.order(-1);
        m.coverAt(1, 0, 99);
        m.count(10);
        for (int i = 11; i <= 16; i++) {
            due("count(" + i + ")", m.count(i), 0);
        }
    }
}
