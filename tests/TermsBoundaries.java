/**
 * The Terms of the document, sentence by sentence, at their boundaries: too small, too large, empty,
 * full, and what lies around an edge. Each test names the words that it would find broken.
 */
public final class TermsBoundaries extends Checks {
    private static final int[] LONG = {1, 2, 3, 4, 2, 3, 4};
    private static final int[] WIDE = {1, 1, 1, 1, 2, 2, 2};

    public static void main(String[] args) {
        calls();
        cellsOfTheBody();
        coloursOfTheBody();
        innerCells();
        innerAtTheEdges();
        kinds();
        squares();
        fortyEver();
        colours();
        overlaps();
        gone();
        studs();
        hangTogether();
        ground();
        pieces();
        fortyInOne();
        floats();
        keys();
        hangsBy();
        sharedStuds();
        holds();
        standsWithGround();
        standsOnBorders();
        standsOnSlantBorders();
        standsOnCorners();
        middle();
        sound();
        noBricks();
        fit();
        seams();
        seamsOverSeams();
        coverCells();
        coverOfOne();
        coverOnceAndNoOther();
        fewest();
        fewestSeams();
        toldSo();
        box();
        madeOfTwo();
        leftOver();
        fromSixToOne();
        orderFromAbove();
        orderOfTwelve();
        orderSound();
        orderFirst();
        seen();
        end();
    }

    private static int wide(int kind, int turn) {
        return turn == 0 ? LONG[kind] : WIDE[kind];
    }

    private static int deep(int kind, int turn) {
        return turn == 0 ? WIDE[kind] : LONG[kind];
    }

    private static void fullBody(BrickModels m) {
        for (int i = 0; i < 180; i++) {
            m.cell(i % 6, i / 6 % 6, i / 36, 1);
        }
    }

    private static void calls() {
        says("An object is used for at most 512 calls after it has been made");
        BrickModels m = new BrickModels();
        for (int i = 0; i < 40; i++) {
            due("place, call " + i, m.place(0, 0, 0, 0, 0, 1), i);
            due("take, call " + i, m.take(i), 1);
        }
        for (int i = 0; i < 430; i++) {
            due("cellOf, call " + i, m.cellOf(6, 0, 0), -1);
        }
        due("count(11), the 511th", m.count(11), 430);
        due("place, the 512th", m.place(0, 0, 0, 0, 0, 1), -6);
    }

    private static void cellsOfTheBody() {
        says("CELLS at x (0 .. 5), y (0 .. 5), z (0 .. 4; LAYERS, 0 on the ground)");
        BrickModels m = new BrickModels();
        for (int i = 0; i < 180; i++) {
            due("cell " + i, m.cell(i % 6, i / 6 % 6, i / 36, 1 + i * 7 % 5), 0);
        }
        for (int i = 0; i < 180; i++) {
            due("cellOf " + i, m.cellOf(i % 6, i / 6 % 6, i / 36), 1 + i * 7 % 5);
        }
        due("a full body", m.count(0), 180);
        int[][] beyond = {{-1, 1, 1}, {6, 1, 1}, {1, -1, 1}, {1, 6, 1}, {1, 1, -1}, {1, 1, 5}, {-1, 0, 0}, {6, 5, 4},
            {LOWEST, 0, 0}, {HIGHEST, 0, 0}, {0, LOWEST, 0}, {0, HIGHEST, 0}, {0, 0, LOWEST}, {0, 0, HIGHEST}};
        for (int[] b : beyond) {
            refused("cell", TermsBoundaries::fullBody, x -> x.cell(b[0], b[1], b[2], 2), -1);
            refused("cell of none", TermsBoundaries::fullBody, x -> x.cell(b[0], b[1], b[2], 0), -1);
            refused("cellOf", TermsBoundaries::fullBody, x -> x.cellOf(b[0], b[1], b[2]), -1);
            refused("at", Checks::forty, x -> x.at(b[0], b[1], b[2]), -1);
            refused("place", Checks::some, x -> x.place(0, 0, b[0], b[1], b[2], 1), -1);
        }
    }

    private static void coloursOfTheBody() {
        says("each of a COLOUR 0 .. 5 (0: no CELL of the body; at first)");
        BrickModels m = new BrickModels();
        int[] colours = {0, 5, 4, 3, 2, 1, 0, 0};
        int was = 0;
        for (int colour : colours) {
            due("cell, " + colour, m.cell(5, 0, 4, colour), was);
            due("cellOf, " + colour, m.cellOf(5, 0, 4), colour);
            due("count(0), " + colour, m.count(0), colour == 0 ? 0 : 1);
            was = colour;
        }
        int[] none = {-1, 6, LOWEST, HIGHEST};
        for (int colour : none) {
            refused("cell with COLOUR " + colour, Checks::some, x -> x.cell(0, 0, 0, colour), -1);
        }
    }

    private static void innerCells() {
        says("INNER CELLS: those all of whose six neighbours (x, y, z one more or less) are CELLS of the body");
        int[][] arms = {{1, 3, 2}, {3, 3, 2}, {2, 2, 2}, {2, 4, 2}, {2, 3, 1}, {2, 3, 3}};
        BrickModels m = new BrickModels();
        due("of an empty body", m.inner(), 0);
        m.cell(2, 3, 2, 1);
        due("one alone", m.inner(), 0);
        for (int i = 0; i < 6; i++) {
            m.cell(arms[i][0], arms[i][1], arms[i][2], 1 + i % 5);
            due("with neighbours: " + (i + 1), m.inner(), i == 5 ? 1 : 0);
        }
        for (int[] arm : arms) {
            int was = m.cell(arm[0], arm[1], arm[2], 0);
            due("without one of the six", m.inner(), 0);
            m.cell(arm[0], arm[1], arm[2], was);
            due("with it again", m.inner(), 1);
        }
        m.cell(2, 3, 2, 0);
        due("what is no CELL of the body is no INNER one", m.inner(), 0);
    }

    /** A part of the body from one place to another, both in it. */
    private static int innerOf(int fromX, int fromY, int fromZ, int toX, int toY, int toZ) {
        BrickModels m = new BrickModels();
        for (int i = 0; i < 180; i++) {
            int x = i % 6;
            int y = i / 6 % 6;
            int z = i / 36;
            if (x >= fromX && x <= toX && y >= fromY && y <= toY && z >= fromZ && z <= toZ) {
                m.cell(x, y, z, 3);
            }
        }
        return m.inner();
    }

    private static void innerAtTheEdges() {
        says("(what lies beyond 0 .. 5, 0 .. 4 is none; below z 0 neither)");
        due("two at x 0", innerOf(0, 0, 0, 1, 5, 4), 0);
        due("two at x 5", innerOf(4, 0, 0, 5, 5, 4), 0);
        due("two at y 0", innerOf(0, 0, 0, 5, 1, 4), 0);
        due("two at y 5", innerOf(0, 4, 0, 5, 5, 4), 0);
        due("two at z 0", innerOf(0, 0, 0, 5, 5, 1), 0);
        due("two at z 4", innerOf(0, 0, 3, 5, 5, 4), 0);
        due("three at x 0", innerOf(0, 0, 0, 2, 5, 4), 12);
        due("three at x 5", innerOf(3, 0, 0, 5, 5, 4), 12);
        due("three at y 0", innerOf(0, 0, 0, 5, 2, 4), 12);
        due("three at y 5", innerOf(0, 3, 0, 5, 5, 4), 12);
        due("three at z 0", innerOf(0, 0, 0, 5, 5, 2), 16);
        due("three at z 4", innerOf(0, 0, 2, 5, 5, 4), 16);
        due("a full body", innerOf(0, 0, 0, 5, 5, 4), 48);
        BrickModels m = new BrickModels();
        fullBody(m);
        for (int i = 0; i < 30; i++) {
            m.place(5, 0, i % 2 * 3, i / 2 % 3 * 2, i / 6, 2);
        }
        due("WRONG of a full body: those at the edges", m.fit(1), 180 - 48);
    }

    private static void kinds() {
        says("all one LAYER high; a TURN 0: the longer side goes along x, 1: along y");
        for (int kind = 0; kind < 7; kind++) {
            for (int turn = 0; turn < 2; turn++) {
                BrickModels m = new BrickModels();
                m.place(kind, turn, 1, 2, 2, 1);
                due("CELLS of KIND " + kind, m.pieceOf(0, 0), LONG[kind] * WIDE[kind]);
                for (int i = 0; i < 180; i++) {
                    int x = i % 6 - 1;
                    int y = i / 6 % 6 - 2;
                    boolean in = x >= 0 && x < wide(kind, turn) && y >= 0 && y < deep(kind, turn) && i / 36 == 2;
                    due("KIND " + kind + " TURN " + turn + " at " + i, m.at(i % 6, i / 6 % 6, i / 36), in ? 0 : -9);
                }
            }
        }
        says("A BRICK at x, y, z covers CELLS from x, y on");
        BrickModels corners = new BrickModels();
        corners.place(6, 0, 0, 0, 0, 1);
        corners.place(6, 1, 4, 2, 4, 1);
        int[][] ends = {{0, 0, 0, 0}, {3, 0, 0, 0}, {0, 1, 0, 0}, {3, 1, 0, 0}, {4, 0, 0, -9}, {0, 2, 0, -9},
            {4, 2, 4, 1}, {5, 2, 4, 1}, {4, 5, 4, 1}, {5, 5, 4, 1}, {3, 2, 4, -9}, {4, 1, 4, -9}};
        for (int[] e : ends) {
            due("at " + e[0] + ", " + e[1] + ", " + e[2], corners.at(e[0], e[1], e[2]), e[3]);
        }
        says("KINDS of BRICKS, length by width: 0 1 by 1, 1 1 by 2, 2 1 by 3, 3 1 by 4, 4 2 by 2, 5 2 by 3, 6 2 by 4");
        int[] noKind = {-1, 7, LOWEST, HIGHEST};
        for (int kind : noKind) {
            refused("place of KIND " + kind, Checks::some, x -> x.place(kind, 0, 0, 0, 4, 1), -1);
            refused("box of KIND " + kind, Checks::some, x -> x.box(kind, 1), -1);
            refused("lacks of KIND " + kind, Checks::some, x -> x.lacks(kind), -1);
        }
        int[] noTurn = {-1, 2, LOWEST, HIGHEST};
        for (int turn : noTurn) {
            refused("place with TURN " + turn, Checks::some, x -> x.place(0, turn, 0, 0, 4, 1), -1);
            refused("place of a square with TURN " + turn, Checks::some, x -> x.place(4, turn, 0, 0, 4, 1), -1);
        }
    }

    private static void squares() {
        says("(of 0 and 4 both are the same)");
        int[] kinds = {0, 4};
        for (int kind : kinds) {
            BrickModels m = new BrickModels();
            due("TURN 1 fits in the last corner", m.place(kind, 1, 6 - LONG[kind], 6 - LONG[kind], 0, 1), 0);
            due("TURN 1 overlaps TURN 0", m.place(kind, 0, 6 - LONG[kind], 6 - LONG[kind], 0, 1), -3);
            due("TURN 0 fits above it", m.place(kind, 0, 6 - LONG[kind], 6 - LONG[kind], 1, 1), 1);
            due("STUDS of both", m.studs(0, 1), LONG[kind] * LONG[kind]);
        }
        BrickModels m = new BrickModels();
        cells(m, 0, 1, "##", "##", "...#");
        due("a COVER's square has TURN 0", m.coverAt(1, 0, 0), 4);
        due("a COVER's 1 by 1 has TURN 0", m.coverAt(1, 0, 1), 2300);
    }

    private static void fortyEver() {
        says("BRICKS have numbers from 0 on (40 are ever placed at most)");
        Setup allGone = x -> {
            for (int i = 0; i < 40; i++) {
                x.place(6, 0, 0, 0, 0, 1);
                x.take(i);
            }
        };
        BrickModels m = new BrickModels();
        for (int i = 0; i < 40; i++) {
            due("place where the last is GONE", m.place(6, 0, 0, 0, 0, 1), i);
            due("take", m.take(i), 1);
        }
        due("BRICKS ever", m.count(2), 40);
        due("BRICKS that are there", m.count(1), 0);
        refused("the 41st, all others are GONE", allGone, x -> x.place(0, 0, 5, 5, 4, 1), -6);
        refused("the 41st, all others are there", Checks::forty, x -> x.place(0, 0, 5, 5, 4, 1), -6);
        Setup oneWished = x -> {
            allGone.on(x);
            x.cell(0, 0, 0, 1);
        };
        refused("lay of the 41st", oneWished, x -> x.lay(1, 0), -6);
        calm("cover of it", oneWished, x -> x.cover(1, 0), 1);
        refused("BRICK 40 of 40", allGone, x -> x.brickOf(40, 6), -1);
        calm("BRICK 39 of 40", allGone, x -> x.brickOf(39, 6), 1);
    }

    private static void colours() {
        says("a KIND, TURN, place and COLOUR (1 .. 5)");
        BrickModels m = new BrickModels();
        for (int colour = 1; colour <= 5; colour++) {
            due("COLOUR " + colour, m.place(0, 0, colour, 0, 0, colour), colour - 1);
            due("brickOf", m.brickOf(colour - 1, 5), colour);
            due("seen", m.seen(4, colour, 0), colour);
        }
        int[] none = {0, -1, 6, LOWEST, HIGHEST};
        for (int colour : none) {
            refused("place of COLOUR " + colour, Checks::some, x -> x.place(0, 0, 0, 0, 4, colour), -1);
            refused("cover of COLOUR " + colour, Checks::some, x -> x.cover(colour, 0), -1);
        }
    }

    private static void overlaps() {
        says("none overlaps another one");
        Setup one = x -> x.place(5, 0, 1, 2, 2, 1);
        for (int i = 0; i < 180; i++) {
            int x = i % 6;
            int y = i / 6 % 6;
            int z = i / 36;
            boolean in = x >= 1 && x <= 3 && y >= 2 && y <= 3 && z == 2;
            BrickModels m = new BrickModels();
            one.on(m);
            due("1 by 1 at " + x + ", " + y + ", " + z, m.place(0, 0, x, y, z, 1), in ? -3 : 1);
        }
        refused("around it", one, x -> x.place(6, 0, 0, 2, 2, 1), -3);
        refused("with its last CELL", one, x -> x.place(4, 0, 0, 1, 2, 1), -3);
        refused("with its first CELL", one, x -> x.place(4, 0, 3, 3, 2, 1), -3);
        refused("across it", one, x -> x.place(3, 1, 2, 0, 2, 1), -3);
        refused("the same", one, x -> x.place(5, 0, 1, 2, 2, 1), -3);
        BrickModels m = new BrickModels();
        one.on(m);
        due("beside it", m.place(6, 1, 4, 2, 2, 1), 1);
        due("before it", m.place(6, 0, 1, 0, 2, 1), 2);
        due("above it", m.place(5, 0, 1, 2, 3, 1), 3);
        due("below it", m.place(5, 0, 1, 2, 1, 1), 4);
        m.take(0);
        due("where it is GONE", m.place(5, 0, 1, 2, 2, 1), 5);
    }

    private static void gone() {
        says("taken away they keep their numbers, but are GONE");
        BrickModels m = new BrickModels();
        m.place(1, 0, 0, 0, 0, 1);
        m.place(2, 1, 3, 1, 1, 2);
        m.place(3, 0, 0, 4, 4, 3);
        due("take the middle one", m.take(1), 1);
        int[][] want = {{1, 0, 0, 0, 0, 1, 0}, {2, 1, 3, 1, 1, 2, 1}, {3, 0, 0, 4, 4, 3, 0}};
        for (int brick = 0; brick < 3; brick++) {
            for (int what = 0; what < 7; what++) {
                due("brickOf " + brick + ", " + what, m.brickOf(brick, what), want[brick][what]);
            }
        }
        due("the last keeps its number", m.at(3, 4, 4), 2);
        due("the next gets a new number", m.place(0, 0, 3, 1, 1, 5), 3);
        due("where the other is GONE", m.at(3, 2, 1), -9);
        due("take the last one", m.take(3), 1);
        due("its number is not given again", m.place(0, 0, 3, 1, 1, 5), 4);
    }

    private static void studs() {
        says("STUDS of two BRICKS of LAYERS one above the other: how many x, y they both cover");
        BrickModels m = new BrickModels();
        m.place(6, 0, 1, 2, 2, 1);
        int[][] others = {{6, 0, 1, 2, 3, 8}, {6, 0, 1, 2, 1, 8}, {6, 0, 1, 2, 4, 0}, {6, 0, 1, 2, 0, 0},
            {0, 0, 0, 2, 2, 0}, {0, 0, 5, 2, 2, 0}};
        for (int i = 0; i < others.length; i++) {
            int[] o = others[i];
            due("place", m.place(o[0], o[1], o[2], o[3], o[4], 1), i + 1);
            due("STUDS with " + (i + 1), m.studs(0, i + 1), o[5]);
            due("the other way round", m.studs(i + 1, 0), o[5]);
        }
        int[][] above = {{4, 0, 0, 1, 1}, {4, 0, 4, 1, 1}, {4, 0, 0, 3, 1}, {4, 0, 4, 3, 1}, {0, 0, 0, 2, 0},
            {0, 0, 5, 3, 0}, {0, 0, 1, 1, 0}, {0, 0, 4, 4, 0}, {3, 0, 0, 2, 3}, {3, 1, 2, 0, 2}, {6, 1, 3, 1, 4}};
        for (int[] a : above) {
            BrickModels pair = new BrickModels();
            pair.place(6, 0, 1, 2, 2, 1);
            pair.place(a[0], a[1], a[2], a[3], 3, 1);
            due("STUDS with one above at " + a[2] + ", " + a[3], pair.studs(1, 0), a[4]);
        }
    }

    private static int piecesOf(int[]... bricks) {
        BrickModels m = new BrickModels();
        for (int[] b : bricks) {
            m.place(b[0], b[1], b[2], b[3], b[4], 1);
        }
        due("BRICKS", m.count(1), bricks.length);
        return m.pieces();
    }

    private static void hangTogether() {
        says("They HANG TOGETHER if that is above 0, or by others between");
        due("one STUD", piecesOf(new int[][] {{4, 0, 0, 0, 1}, {4, 0, 1, 1, 2}}), 1);
        due("corners alone", piecesOf(new int[][] {{4, 0, 0, 0, 1}, {4, 0, 2, 2, 2}}), 2);
        due("sides alone", piecesOf(new int[][] {{4, 0, 0, 0, 1}, {4, 0, 2, 0, 2}}), 2);
        due("beside one another", piecesOf(new int[][] {{4, 0, 0, 0, 1}, {4, 0, 2, 0, 1}}), 2);
        due("a LAYER between", piecesOf(new int[][] {{4, 0, 0, 0, 1}, {4, 0, 0, 0, 3}}), 2);
        due("one between", piecesOf(new int[][] {{4, 0, 0, 0, 1}, {4, 0, 0, 0, 3}, {0, 0, 1, 1, 2}}), 1);
        due("beside one another, by one above",
                piecesOf(new int[][] {{4, 0, 0, 0, 1}, {4, 0, 2, 0, 1}, {1, 0, 1, 0, 2}}), 1);
        due("around the edge of x", piecesOf(new int[][] {{0, 0, 5, 0, 1}, {0, 0, 0, 1, 2}}), 2);
        due("from the highest LAYER to the lowest", piecesOf(new int[][] {{0, 0, 0, 0, 4}, {0, 0, 0, 0, 0}}), 2);
        BrickModels m = new BrickModels();
        for (int i = 0; i < 40; i++) {
            m.place(0, 0, i % 6, 0, 0, 1);
            m.take(i);
        }
        due("all GONE", m.pieces(), 0);
    }

    private static void ground() {
        says("BRICKS of LAYER 0 stand on the ground: they HANG by it, but not with one another");
        BrickModels m = new BrickModels();
        for (int i = 0; i < 36; i++) {
            m.place(0, 0, i % 6, i / 6, 0, 1);
        }
        due("a full LAYER 0", m.pieces(), 36);
        due("none of them FLOATS", m.count(4), 0);
        due("all is SOUND", m.sound(), 1);
        for (int brick = 0; brick < 36; brick++) {
            due("each its own PIECE", m.piece(brick), brick);
        }
    }

    private static void pieces() {
        says("PIECES: sets of BRICKS that HANG TOGETHER (greatest ones)");
        BrickModels m = new BrickModels();
        int[][] zigzag = {{3, 0, 0, 0, 0}, {3, 1, 3, 0, 1}, {3, 0, 0, 3, 0}, {3, 1, 0, 2, 1}, {1, 1, 0, 4, 2},
            {0, 0, 0, 4, 3}, {0, 0, 0, 4, 4}};
        for (int i = 0; i < zigzag.length; i++) {
            int[] b = zigzag[i];
            m.place(b[0], b[1], b[2], b[3], b[4], 1);
        }
        due("a chain of seven", m.pieces(), 1);
        due("its BRICKS", m.pieceOf(0, 3), 7);
        due("its CELLS", m.pieceOf(0, 0), 4 * 4 + 2 + 1 + 1);
        m.take(2);
        due("cut in two", m.pieces(), 2);
        due("the first part", m.pieceOf(0, 3), 2);
        due("the second part", m.pieceOf(1, 3), 4);
        BrickModels apart = new BrickModels();
        for (int i = 0; i < 40; i++) {
            apart.place(0, 0, i % 6, i / 6 % 6, i < 36 ? 0 : 2, 1);
        }
        due("40 that are apart", apart.pieces(), 40);
        due("the last of 40", apart.pieceOf(39, 1), 1);
        due("behind the last of 40", apart.pieceOf(40, 1), -1);
        due("the PIECE of the last", apart.piece(39), 39);
    }

    private static void fortyInOne() {
        says("sets of BRICKS that HANG TOGETHER (greatest ones)");
        BrickModels m = new BrickModels();
        for (int i = 0; i < 24; i++) {
            m.place(0, 0, i % 4, i / 4, 0, 1);
        }
        for (int y = 0; y < 6; y += 2) {
            m.place(6, 0, 0, y, 1, 1);
        }
        due("three PIECES", m.pieces(), 3);
        m.place(3, 1, 0, 1, 2, 1);
        for (int i = 0; i < 12; i++) {
            m.place(0, 0, 1 + i % 3, i / 3, 2, 1);
        }
        due("40 in one PIECE", m.pieces(), 1);
        due("its BRICKS", m.pieceOf(0, 3), 40);
        due("its CELLS", m.pieceOf(0, 0), 24 + 24 + 4 + 12);
        due("it STANDS", m.pieceOf(0, 2), 1);
        due("the PIECE of the last", m.piece(39), 0);
        due("its KEYS: three over feet, one over these", m.count(3), 4);
        due("it is SOUND", m.sound(), 1);
        m.take(27);
        due("without the one over three", m.pieces(), 3);
        for (int brick = 0; brick < 40; brick++) {
            if (brick != 0 && brick != 27) {
                m.take(brick);
            }
        }
        due("the first is left", m.pieceOf(0, 3), 1);
    }

    private static void floats() {
        says("A PIECE without a BRICK of LAYER 0 FLOATS");
        for (int z = 0; z < 5; z++) {
            BrickModels m = new BrickModels();
            m.place(6, 0, 0, 0, z, 1);
            due("one of LAYER " + z, m.pieceOf(0, 1), z == 0 ? 0 : 1);
            due("count(4)", m.count(4), z == 0 ? 0 : 1);
            due("sound()", m.sound(), z == 0 ? 1 : 0);
        }
        BrickModels tower = new BrickModels();
        for (int z = 4; z >= 0; z--) {
            tower.place(0, 0, 5, 5, z, 1);
            due("a tower from LAYER " + z, tower.pieceOf(0, 1), z == 0 ? 0 : 1);
        }
        tower.take(4);
        due("its foot is GONE", tower.pieceOf(0, 1), 1);
        tower.place(0, 0, 4, 5, 0, 1);
        due("a foot beside it", tower.pieceOf(0, 1), 1);
        due("one FLOATS, one not", tower.count(4), 1);
    }

    private static void keys() {
        says("A BRICK is a KEY if without it what is left of its PIECE is two PIECES or more");
        BrickModels m = new BrickModels();
        m.place(3, 0, 0, 0, 2, 1);
        due("alone: nothing is left", m.key(0), 0);
        m.place(0, 0, 0, 0, 1, 1);
        due("of two: one is left", m.key(0), 0);
        due("of two, the other", m.key(1), 0);
        m.place(0, 0, 3, 0, 3, 1);
        due("of three: two are left", m.key(0), 1);
        m.place(0, 0, 1, 0, 3, 1);
        due("three are left", m.key(0), 1);
        due("KEYS", m.count(3), 1);
        m.place(0, 0, 5, 5, 0, 1);
        due("another PIECE doesn't matter", m.key(4), 0);
        m.take(2);
        m.take(3);
        due("one is left again, beside another PIECE", m.key(0), 0);
        due("no KEYS", m.count(3), 0);
        BrickModels row = new BrickModels();
        for (int i = 0; i < 20; i++) {
            row.place(0, 0, i % 4, 0, i / 4, 1);
        }
        due("of towers of five all but the ends", row.count(3), 12);
    }

    private static void hangsBy() {
        says("Each of these that would FLOAT then (of the PIECE that didn't) HANGS BY that KEY");
        BrickModels feet = new BrickModels();
        feet.grip(1);
        feet.place(6, 1, 0, 0, 0, 1);
        feet.place(6, 1, 4, 0, 0, 1);
        feet.place(3, 0, 1, 0, 1, 1);
        due("a KEY over two feet", feet.key(2), 1);
        due("what stands on the ground doesn't HANG BY it", feet.weak(2), 0);
        feet.place(1, 0, 2, 0, 2, 1);
        due("two CELLS by two STUDS", feet.weak(2), 0);
        feet.place(0, 0, 2, 0, 3, 1);
        due("three by two STUDS", feet.weak(2), 1);
        feet.place(2, 1, 1, 0, 2, 1);
        due("three by one STUD, too", feet.weak(2), 2);
        feet.take(0);
        due("with one foot", feet.weak(2), 2);
        feet.take(1);
        due("the PIECE FLOATS: nothing HANGS BY its KEY", feet.weak(2), 0);
        due("though it is a KEY", feet.key(2), 1);
        BrickModels foot = new BrickModels();
        foot.grip(1);
        foot.place(0, 0, 0, 0, 0, 1);
        foot.place(6, 0, 0, 0, 1, 1);
        due("what would FLOAT without a foot that is no KEY", foot.weak(0), 0);
        foot.place(6, 1, 2, 2, 1, 1);
        due("another PIECE that FLOATS", foot.weak(0), 0);
        BrickModels top = new BrickModels();
        top.grip(1);
        top.place(0, 0, 0, 0, 0, 1);
        top.place(3, 0, 0, 0, 1, 1);
        top.place(3, 1, 3, 0, 2, 1);
        top.place(3, 1, 0, 0, 2, 1);
        due("a foot below a KEY by which two HANG", top.weak(1), 2);
    }

    private static void sharedStuds() {
        says("with as many STUDS as it shares with it; WEIGHT: its CELLS");
        BrickModels m = new BrickModels();
        m.grip(2);
        m.place(3, 0, 0, 0, 0, 1);
        m.place(3, 0, 0, 0, 1, 1);
        m.place(1, 0, 0, 0, 2, 1);
        m.place(0, 0, 3, 0, 2, 1);
        m.place(3, 0, 0, 0, 3, 1);
        due("2 and 1 STUDS, 7 CELLS, GRIP 2", m.weak(1), 1);
        m.grip(3);
        due("2 and 1 STUDS, 7 CELLS, GRIP 3", m.weak(1), 0);
        m.place(1, 1, 2, 0, 4, 1);
        due("9 CELLS: 3 times 3 at most", m.weak(1), 0);
        m.place(0, 0, 0, 0, 4, 1);
        due("10 CELLS", m.weak(1), 1);
        BrickModels below = new BrickModels();
        below.grip(1);
        below.place(0, 0, 5, 0, 0, 1);
        below.place(3, 0, 2, 0, 1, 1);
        below.place(3, 0, 1, 0, 2, 1);
        below.place(3, 1, 1, 0, 1, 1);
        due("what HANGS below a KEY: 4 CELLS by one STUD", below.weak(2), 1);
        below.grip(4);
        due("GRIP 4", below.weak(2), 0);
        due("8 CELLS HANG BY the one below with 3 STUDS", below.weak(1), 0);
        below.grip(2);
        due("GRIP 2", below.weak(1), 1);
    }

    private static void holds() {
        says("It HOLDS if WEIGHT is GRIP (1 .. 40; 8 at first) times these STUDS at most");
        BrickModels m = new BrickModels();
        m.place(6, 0, 0, 0, 0, 1);
        m.place(0, 0, 0, 0, 1, 1);
        m.place(6, 0, 0, 0, 2, 1);
        due("8 CELLS at first", m.weak(1), 0);
        m.place(6, 1, 0, 0, 3, 1);
        due("16 CELLS at first", m.weak(1), 1);
        due("it is not SOUND", m.sound(), 0);
        m.grip(16);
        due("16 CELLS, GRIP 16", m.weak(1), 0);
        m.grip(15);
        due("16 CELLS, GRIP 15", m.weak(1), 1);
        m.place(6, 1, 2, 0, 3, 1);
        m.place(6, 0, 0, 0, 4, 1);
        m.place(6, 0, 0, 2, 4, 1);
        m.grip(40);
        due("40 CELLS, the greatest GRIP", m.weak(1), 0);
        m.grip(39);
        due("40 CELLS, GRIP 39", m.weak(1), 1);
        m.grip(40);
        m.place(0, 0, 0, 2, 2, 1);
        due("41 CELLS, the greatest GRIP", m.weak(1), 1);
        BrickModels least = new BrickModels();
        least.grip(1);
        least.place(0, 0, 0, 0, 0, 1);
        least.place(0, 0, 0, 0, 1, 1);
        least.place(0, 0, 0, 0, 2, 1);
        due("one CELL, the least GRIP", least.weak(1), 0);
        least.place(0, 0, 0, 0, 3, 1);
        due("two CELLS, the least GRIP", least.weak(1), 1);
        BrickModels first = new BrickModels();
        first.place(6, 0, 0, 0, 0, 1);
        first.place(0, 0, 0, 0, 1, 1);
        first.place(6, 0, 0, 0, 2, 1);
        first.place(0, 0, 0, 0, 3, 1);
        due("9 CELLS at first", first.weak(1), 1);
    }

    private static void standsWithGround() {
        says("STANDS: a PIECE with BRICKS of LAYER 0");
        for (int z = 0; z < 5; z++) {
            BrickModels m = new BrickModels();
            m.place(6, 0, 1, 1, z, 1);
            due("one of LAYER " + z, m.pieceOf(0, 2), z == 0 ? 1 : 0);
        }
        BrickModels m = new BrickModels();
        m.place(6, 0, 0, 0, 0, 1);
        m.place(6, 0, 0, 0, 2, 1);
        due("what FLOATS above another one's corners", m.pieceOf(1, 2), 0);
        m.place(0, 0, 0, 0, 1, 1);
        due("joined to it", m.pieceOf(0, 2), 1);
    }

    /** Places a BRICK as seen from another side: x and y changed for one another, or turned round. */
    private static void put(BrickModels m, int view, int[] b) {
        int wide = wide(b[0], b[1]);
        int deep = deep(b[0], b[1]);
        int x = (view & 1) == 0 ? b[2] : 6 - b[2] - wide;
        int y = (view & 2) == 0 ? b[3] : 6 - b[3] - deep;
        boolean swap = (view & 4) != 0;
        int ever = m.count(2);
        due("place", m.place(b[0], swap ? 1 - b[1] : b[1], swap ? y : x, swap ? x : y, b[4], 1), ever);
    }

    /** The last BRICK takes the middle beyond the border, from all eight sides. */
    private static void tips(String what, int[]... bricks) {
        for (int view = 0; view < 8; view++) {
            BrickModels m = new BrickModels();
            m.grip(40);
            for (int i = 0; i < bricks.length - 1; i++) {
                put(m, view, bricks[i]);
            }
            due(what + ", above the border, side " + view, m.pieceOf(0, 2), 1);
            due(what + ", SOUND, side " + view, m.sound(), 1);
            put(m, view, bricks[bricks.length - 1]);
            due("one PIECE", m.pieces(), 1);
            due(what + ", beyond the border, side " + view, m.pieceOf(0, 2), 0);
            due(what + ", not SOUND, side " + view, m.sound(), 0);
        }
    }

    private static void standsOnBorders() {
        says("if its middle lies above the hull of their corners (borders, too)");
        // 2 x and 1: 1, 3; 3, 5, 7; 5: 24 by 12
        tips("a foot of 2", new int[][] {{1, 0, 0, 0, 0}, {2, 0, 1, 0, 1}, {0, 0, 2, 0, 2}, {0, 0, 2, 0, 3}});
        // 1; 1, 3, 1, 3; 3: 12 by 12 along x, 1; 1, 1, 3, 3; 1: 10 by 12 along y
        tips("a foot of 1", new int[][] {{0, 0, 0, 0, 0}, {4, 0, 0, 0, 1}, {0, 0, 1, 0, 2}, {0, 0, 1, 0, 3}});
        BrickModels gap = new BrickModels();
        gap.place(0, 0, 0, 0, 0, 1);
        gap.place(0, 0, 2, 0, 0, 1);
        gap.place(3, 0, 0, 0, 1, 1);
        due("above a gap between feet", gap.pieceOf(0, 2), 1);
        due("two feet are one PIECE", gap.pieces(), 1);
        gap.take(1);
        due("one foot at the end", gap.pieceOf(0, 2), 0);
    }

    private static void standsOnSlantBorders() {
        says("above the hull of their corners (borders, too)");
        // x less y is 1 from corner 1, 0 to corner 2, 1; the sums are 36 and 16 by 20
        tips("a slant border", new int[][] {{0, 0, 0, 0, 0}, {0, 0, 1, 1, 0}, {4, 0, 0, 0, 1}, {3, 0, 1, 0, 2},
            {0, 0, 2, 0, 3}});
        // x less 2 y is 1 from corner 1, 0 to corner 3, 1; the sums are 60 and 18 by 24
        tips("a flatter slant border", new int[][] {{0, 0, 0, 0, 0}, {0, 0, 2, 1, 0}, {2, 0, 0, 0, 1}, {0, 0, 2, 1, 1},
            {1, 1, 2, 0, 2}, {2, 0, 2, 0, 3}, {0, 0, 4, 0, 4}, {0, 0, 3, 0, 4}});
    }

    private static void standsOnCorners() {
        says("its middle lies above the hull of their corners");
        // 1; 1, 3, 1, 3; 3 along x and along y: 12 by 12, the very corner 1, 1
        tips("a corner", new int[][] {{0, 0, 0, 0, 0}, {4, 0, 0, 0, 1}, {0, 0, 1, 1, 2}, {0, 0, 1, 1, 3}});
    }

    private static void middle() {
        says("the middle: the sum over its CELLS of 2 x and 1, and 2 y and 1, by twice the number of CELLS");
        // a foot of 2 by 2 along x: 8 by 8
        BrickModels m = new BrickModels();
        m.place(4, 0, 0, 0, 0, 1);
        due("8 by 8", m.pieceOf(0, 2), 1);
        m.place(6, 0, 1, 0, 1, 1);
        due("56 by 24", m.pieceOf(0, 2), 0);
        m.take(1);
        m.place(6, 0, 0, 0, 1, 1);
        due("40 by 24", m.pieceOf(0, 2), 1);
        tips("64 by 32, then 69 by 34",
                new int[][] {{4, 0, 0, 0, 0}, {6, 0, 0, 0, 1}, {4, 0, 2, 0, 2}, {0, 0, 2, 0, 3}});
        BrickModels alike = new BrickModels();
        alike.place(1, 0, 0, 0, 0, 1);
        alike.place(6, 0, 0, 0, 1, 1);
        due("LAYERS don't matter, CELLS of large BRICKS count each: 36 by 20", alike.pieceOf(0, 2), 1);
        alike.place(0, 0, 3, 0, 2, 1);
        due("43 by 22", alike.pieceOf(0, 2), 1);
        alike.place(0, 0, 3, 0, 3, 1);
        due("50 by 24, beyond 2", alike.pieceOf(0, 2), 0);
    }

    private static void sound() {
        says("SOUND: all PIECES STAND, none FLOATS, all that HANGS BY a KEY HOLDS");
        BrickModels m = new BrickModels();
        m.place(6, 0, 0, 0, 0, 1);
        m.place(0, 0, 5, 5, 0, 1);
        due("two PIECES that STAND", m.sound(), 1);
        m.place(2, 1, 5, 3, 1, 1);
        due("the second doesn't STAND", m.sound(), 0);
        m.take(2);
        due("it does again", m.sound(), 1);
        m.place(0, 0, 5, 0, 4, 1);
        due("one FLOATS", m.sound(), 0);
        m.take(3);
        m.place(0, 0, 5, 5, 1, 1);
        m.place(0, 0, 5, 5, 2, 1);
        m.place(0, 0, 5, 5, 3, 1);
        m.grip(2);
        due("all HOLDS", m.sound(), 1);
        m.grip(1);
        due("two CELLS by one STUD don't", m.sound(), 0);
        m.take(6);
        due("one does", m.sound(), 1);
        BrickModels first = new BrickModels();
        first.grip(1);
        first.place(0, 0, 0, 0, 1, 1);
        first.place(0, 0, 0, 0, 0, 1);
        first.place(0, 0, 0, 0, 2, 1);
        due("the KEY is the first BRICK: it HOLDS", first.sound(), 1);
        first.place(0, 0, 0, 0, 3, 1);
        due("two CELLS HANG BY the first BRICK", first.sound(), 0);
        due("by no other", first.weak(2), 0);
    }

    private static void noBricks() {
        says("(No BRICKS: SOUND.)");
        BrickModels m = new BrickModels();
        due("at first", m.sound(), 1);
        m.cell(0, 0, 4, 1);
        due("with a body", m.sound(), 1);
        m.place(0, 0, 0, 0, 4, 1);
        due("one FLOATS", m.sound(), 0);
        m.take(0);
        due("all are GONE", m.sound(), 1);
        due("no ORDER is needed", m.order(0), -9);
    }

    private static void fit() {
        says("MISSING: CELLS of the body that no BRICK covers");
        BrickModels m = new BrickModels();
        due("no body", m.fit(0), 0);
        fullBody(m);
        due("a full body, INNER ones, too", m.fit(0), 180);
        m.place(5, 0, 1, 1, 1, 2);
        due("six are covered", m.fit(0), 174);
        says("WRONG: those covered by a BRICK of another COLOUR, but INNER ones");
        due("all six are INNER", m.fit(1), 0);
        m.place(5, 0, 0, 3, 0, 2);
        due("six at the ground", m.fit(1), 6);
        m.place(5, 0, 0, 3, 2, 1);
        due("six of the same COLOUR", m.fit(1), 6);
        m.cell(1, 1, 0, 0);
        due("the one above it is not INNER now", m.fit(1), 7);
        m.cell(0, 3, 0, 2);
        due("another COLOUR of a CELL", m.fit(1), 6);
        says("BEYOND: CELLS of BRICKS that are none of the body");
        due("none", m.fit(2), 0);
        m.cell(0, 3, 0, 0);
        due("one", m.fit(2), 1);
        due("it is not WRONG", m.fit(1), 6);
        due("nor MISSING", m.fit(0), 180 - 18 - 1);
        BrickModels none = new BrickModels();
        for (int i = 0; i < 30; i++) {
            none.place(5, 0, i % 2 * 3, i / 2 % 3 * 2, i / 6, 2);
        }
        due("full of BRICKS, no body", none.fit(2), 180);
        due("nothing MISSING", none.fit(0), 0);
        due("nothing WRONG", none.fit(1), 0);
        none.take(29);
        due("one is GONE", none.fit(2), 174);
    }

    private static int seamsOf(boolean over, int[]... bricks) {
        BrickModels m = new BrickModels();
        for (int[] b : bricks) {
            m.place(b[0], b[1], b[2], b[3], b[4], 1);
        }
        due("BRICKS", m.count(1), bricks.length);
        return m.seams(over);
    }

    private static void seams() {
        says("SEAMS: between two CELLS beside one another (by x or y) of one LAYER, covered by two different BRICKS");
        due("by x", seamsOf(false, new int[][] {{0, 0, 4, 5, 4}, {0, 0, 5, 5, 4}}), 1);
        due("by y", seamsOf(false, new int[][] {{0, 0, 5, 4, 4}, {0, 0, 5, 5, 4}}), 1);
        due("by z", seamsOf(false, new int[][] {{0, 0, 5, 5, 3}, {0, 0, 5, 5, 4}}), 0);
        due("corners", seamsOf(false, new int[][] {{0, 0, 0, 0, 0}, {0, 0, 1, 1, 0}}), 0);
        due("a gap", seamsOf(false, new int[][] {{0, 0, 0, 0, 0}, {0, 0, 2, 0, 0}}), 0);
        due("within one BRICK", seamsOf(false, new int[][] {{6, 0, 0, 0, 0}}), 0);
        due("around the edge of x", seamsOf(false, new int[][] {{0, 0, 5, 2, 1}, {0, 0, 0, 3, 1}}), 0);
        due("around the edge of x, one row", seamsOf(false, new int[][] {{0, 0, 5, 2, 1}, {0, 0, 0, 2, 1}}), 0);
        due("around the edge of y", seamsOf(false, new int[][] {{0, 0, 2, 5, 1}, {0, 0, 2, 0, 2}}), 0);
        due("around the edge of y, one LAYER", seamsOf(false, new int[][] {{0, 0, 2, 5, 1}, {0, 0, 2, 0, 1}}), 0);
        due("two 2 by 4 side by side", seamsOf(false, new int[][] {{6, 0, 0, 0, 2}, {6, 0, 0, 2, 2}}), 4);
        BrickModels full = new BrickModels();
        for (int i = 0; i < 36; i++) {
            full.place(0, 0, i % 6, i / 6, 3, 1);
        }
        due("a full LAYER of 1 by 1", full.seams(false), 60);
        due("over none", full.seams(true), 0);
    }

    private static void seamsOverSeams() {
        says("A SEAM over a SEAM: the two CELLS below are covered by two different BRICKS, too");
        due("over two", seamsOf(true, new int[][] {{0, 0, 0, 0, 0}, {0, 0, 1, 0, 0}, {0, 0, 0, 0, 1}, {0, 0, 1, 0, 1}}), 1);
        due("over one", seamsOf(true, new int[][] {{1, 0, 0, 0, 0}, {0, 0, 0, 0, 1}, {0, 0, 1, 0, 1}}), 0);
        due("one over two", seamsOf(true, new int[][] {{0, 0, 0, 0, 0}, {0, 0, 1, 0, 0}, {1, 0, 0, 0, 1}}), 0);
        due("one CELL below is free", seamsOf(true, new int[][] {{0, 0, 0, 0, 0}, {0, 0, 0, 0, 1}, {0, 0, 1, 0, 1}}), 0);
        due("over two, by y", seamsOf(true, new int[][] {{0, 0, 5, 4, 3}, {0, 0, 5, 5, 3}, {0, 0, 5, 4, 4}, {0, 0, 5, 5, 4}}), 1);
        due("a LAYER between", seamsOf(true, new int[][] {{0, 0, 0, 0, 0}, {0, 0, 1, 0, 0}, {0, 0, 0, 0, 2}, {0, 0, 1, 0, 2}}), 0);
        due("by x over by y", seamsOf(true, new int[][] {{0, 0, 0, 0, 0}, {0, 0, 0, 1, 0}, {0, 0, 0, 0, 1}, {0, 0, 1, 0, 1}}), 0);
        due("the highest LAYER and the ground",
                seamsOf(true, new int[][] {{0, 0, 0, 0, 0}, {0, 0, 1, 0, 0}, {0, 0, 0, 0, 4}, {0, 0, 1, 0, 4}}), 0);
        BrickModels m = new BrickModels();
        for (int i = 0; i < 10; i++) {
            m.place(0, 0, i % 2, 0, i / 2, 1);
        }
        due("five LAYERS", m.seams(true), 4);
        due("SEAMS of five LAYERS", m.seams(false), 5);
        m.take(4);
        due("without one in the middle", m.seams(true), 2);
    }

    private static void coverCells() {
        says("on CELLS of the body of that COLOUR and LAYER that no BRICK covers (16 at most)");
        Setup sixteen = x -> cells(x, 4, 5, "####", "####", "####", "####");
        Setup seventeen = x -> {
            sixteen.on(x);
            x.cell(5, 5, 4, 5);
        };
        calm("16 CELLS", sixteen, x -> x.cover(5, 4), 2);
        refused("17 CELLS", seventeen, x -> x.cover(5, 4), -6);
        refused("17 CELLS, coverSeams", seventeen, x -> x.coverSeams(5, 4), -6);
        refused("17 CELLS, coverAt", seventeen, x -> x.coverAt(5, 4, 0), -6);
        refused("17 CELLS, lay", seventeen, x -> x.lay(5, 4), -6);
        refused("180 CELLS", TermsBoundaries::fullBody, x -> x.cover(1, 2), -6);
        calm("of another COLOUR", TermsBoundaries::fullBody, x -> x.cover(2, 2), 0);
        BrickModels m = new BrickModels();
        seventeen.on(m);
        m.cell(5, 5, 4, 4);
        due("one of another COLOUR", m.cover(5, 4), 2);
        due("that one", m.cover(4, 4), 1);
        m.cell(5, 5, 4, 5);
        due("17 again", m.cover(5, 4), -6);
        m.place(0, 0, 5, 5, 4, 1);
        due("one is covered, by another COLOUR", m.cover(5, 4), 2);
        m.take(0);
        due("it is GONE", m.cover(5, 4), -6);
        m.place(0, 0, 5, 5, 3, 5);
        due("what lies below doesn't cover it", m.cover(5, 4), -6);
        BrickModels full = new BrickModels();
        fullBody(full);
        due("36 CELLS", full.cover(1, 0), -6);
        full.place(6, 0, 0, 0, 0, 2);
        full.place(6, 0, 0, 2, 0, 2);
        due("20 are left", full.cover(1, 0), -6);
        full.place(3, 0, 0, 4, 0, 2);
        due("16 are left", full.cover(1, 0), 3);
        due("16 of them, the first", full.coverAt(1, 0, 0), 416);
    }

    private static void coverOfOne() {
        says("ways to put BRICKS (of all KINDS and TURNS)");
        for (int kind = 0; kind < 7; kind++) {
            for (int turn = 0; turn < (kind == 0 || kind == 4 ? 1 : 2); turn++) {
                int x = 6 - wide(kind, turn);
                int y = 6 - deep(kind, turn);
                BrickModels m = new BrickModels();
                for (int i = 0; i < LONG[kind] * WIDE[kind]; i++) {
                    m.cell(x + i % wide(kind, turn), y + i / wide(kind, turn), 4, 2);
                }
                due("KIND " + kind + " TURN " + turn, m.cover(2, 4), 1);
                due("it is told", m.coverAt(2, 4, 0), kind + 10 * turn + 100 * x + 1000 * y);
                due("it is placed", m.lay(2, 4), 1);
                due("its KIND", m.brickOf(0, 0), kind);
                due("its TURN", m.brickOf(0, 1), turn);
                due("nothing is MISSING", m.fit(0), 0);
                due("nothing is BEYOND", m.fit(2), 0);
            }
        }
    }

    private static void coverOnceAndNoOther() {
        says("each covered once, no other CELL");
        BrickModels m = new BrickModels();
        due("without CELLS", m.cover(1, 0), 0);
        cells(m, 0, 1, "....##", "##....");
        due("not around the edge of x", m.cover(1, 0), 2);
        due("the first", m.coverAt(1, 0, 0), 401);
        due("the second", m.coverAt(1, 0, 1), 1001);
        BrickModels edges = new BrickModels();
        cells(edges, 2, 1, "#....#", "......", "......", "......", "......", "#....#");
        due("four corners", edges.cover(1, 2), 4);
        int[] corners = {0, 500, 5000, 5500, -9};
        for (int i = 0; i < 5; i++) {
            due("corner " + i, edges.coverAt(1, 2, i), corners[i]);
        }
        BrickModels hole = new BrickModels();
        cells(hole, 1, 3, "####", "#..#", "#..#", "####");
        due("around a hole", hole.lay(3, 1), 4);
        due("BEYOND", hole.fit(2), 0);
        due("MISSING", hole.fit(0), 0);
        BrickModels shut = new BrickModels();
        cells(shut, 1, 3, "####", "####");
        shut.place(0, 0, 1, 0, 1, 4);
        due("around a BRICK", shut.lay(3, 1), 3);
        due("MISSING", shut.fit(0), 0);
        due("the BRICK in it", shut.at(1, 0, 1), 0);
    }

    private static void fewest() {
        says("of the fewest BRICKS, of these with the fewest new SEAMS over SEAMS");
        BrickModels m = new BrickModels();
        m.place(2, 0, 0, 0, 0, 1);
        m.place(0, 0, 1, 1, 0, 1);
        cells(m, 1, 1, "###", ".#.");
        due("two BRICKS and a SEAM, not three without one", m.cover(1, 1), 2);
        due("its SEAM over a SEAM", m.coverSeams(1, 1), 1);
        due("the first", m.coverAt(1, 1, 0), 2);
        BrickModels row = new BrickModels();
        cells(row, 1, 1, "#####");
        due("a row of five, no SEAMS below", row.coverAt(1, 1, 0), 3);
        row.place(3, 0, 0, 0, 0, 1);
        row.place(1, 0, 4, 0, 0, 1);
        due("a SEAM below the last", row.coverAt(1, 1, 0), 2);
        row.place(2, 0, 0, 0, 2, 1);
        row.place(2, 0, 3, 0, 2, 1);
        due("and one above the third", row.coverAt(1, 1, 0), 1);
        due("none new", row.coverSeams(1, 1), 0);
    }

    private static void fewestSeams() {
        says("(as many as the model has more by it: with BRICKS that are there, too, in its LAYER and in that above)");
        BrickModels m = new BrickModels();
        for (int z = 0; z < 5; z++) {
            for (int x = 0; x < 3; x++) {
                if (z != 2 || x != 1) {
                    m.place(0, 0, x, 0, z, 1);
                }
            }
        }
        m.cell(1, 0, 2, 1);
        int before = m.seams(true);
        due("two sides, below and above", m.coverSeams(1, 2), 4);
        due("lay", m.lay(1, 2), 1);
        due("the model has more", m.seams(true) - before, 4);
        due("nothing is left", m.coverSeams(1, 2), 0);
        for (int view = 0; view < 4; view++) {
            int side = view % 2 == 0 ? 1 : 0;
            int z = view < 2 ? 1 : 3;
            BrickModels one = new BrickModels();
            one.place(0, 0, 2, 2, z, 1);
            one.place(0, 0, 2 + side, 3 - side, z, 1);
            one.place(0, 0, 2, 2, 2, 1);
            one.cell(2 + side, 3 - side, 2, 1);
            due("one SEAM, below or above, by x or y: " + view, one.coverSeams(1, 2), 1);
            one.place(0, 0, 2, 2, 4 - z, 1);
            one.place(0, 0, 2 + side, 3 - side, 4 - z, 1);
            due("below and above: " + view, one.coverSeams(1, 2), 2);
        }
        BrickModels ground = new BrickModels();
        cells(ground, 0, 1, "##", "##", "#");
        due("on the ground, nothing above", ground.coverSeams(1, 0), 0);
        ground.place(4, 0, 0, 0, 1, 1);
        ground.place(0, 0, 0, 2, 1, 1);
        due("on the ground, SEAMS above", ground.coverSeams(1, 0), 0);
        due("on the ground, the BRICKS turn", ground.coverAt(1, 0, 0), 12);
        BrickModels top = new BrickModels();
        top.place(2, 1, 0, 0, 3, 1);
        top.place(1, 1, 1, 0, 3, 1);
        cells(top, 4, 1, "##", "##", "#");
        due("in the highest LAYER: across the SEAMS below", top.coverAt(1, 4, 0), 4);
        due("in the highest LAYER", top.coverSeams(1, 4), 0);
    }

    private static void toldSo() {
        says("the first CELL (by y, then x) that is not covered yet gets the BRICK of the greatest KIND, of these TURN 0 first");
        BrickModels m = new BrickModels();
        cells(m, 0, 1, "####", "##..");
        due("KIND 4 ahead of KIND 3", m.coverAt(1, 0, 0), 4);
        due("what is left", m.coverAt(1, 0, 1), 201);
        BrickModels turns = new BrickModels();
        cells(turns, 0, 1, "####", "####", "####", "####");
        due("TURN 0 first", turns.coverAt(1, 0, 0), 6);
        due("the second", turns.coverAt(1, 0, 1), 2006);
        BrickModels byY = new BrickModels();
        cells(byY, 0, 1, "....#.", "#.....");
        due("by y", byY.coverAt(1, 0, 0), 400);
        due("then x", byY.coverAt(1, 0, 1), 1000);
        says("with which BEST goes on, and so on");
        BrickModels bump = new BrickModels();
        cells(bump, 0, 1, ".#.", "###");
        due("not the greatest that fits", bump.coverAt(1, 0, 0), 100);
        due("but the one with the fewest", bump.coverAt(1, 0, 1), 1002);
        BrickModels kinds = new BrickModels();
        cells(kinds, 0, 1, "###", "##");
        due("KIND 4 ahead of KIND 2", kinds.coverAt(1, 0, 0), 4);
        due("then KIND 0", kinds.coverAt(1, 0, 1), 200);
    }

    private static void box() {
        says("THE BOX: how many of each KIND there are (0 .. 99; 0 at first)");
        BrickModels m = new BrickModels();
        for (int kind = 0; kind < 7; kind++) {
            due("at first", m.box(kind, 99), 0);
            due("the greatest", m.box(kind, 0), 99);
            due("the least", m.box(kind, kind + 1), 0);
        }
        for (int kind = 0; kind < 7; kind++) {
            due("each its own", m.box(kind, 0), kind + 1);
            int k = kind;
            refused("below the least", Checks::some, x -> x.box(k, -1), -4);
            refused("above the greatest", Checks::some, x -> x.box(k, 100), -6);
            refused("the lowest", Checks::some, x -> x.box(k, LOWEST), -4);
            refused("the highest", Checks::some, x -> x.box(k, HIGHEST), -6);
        }
        says("NEED of a KIND: those in the model");
        BrickModels need = new BrickModels();
        for (int i = 0; i < 40; i++) {
            need.place(0, 0, i % 6, i / 6 % 6, i / 36, 1);
        }
        due("40 are needed", need.lacks(0), 40);
        need.box(0, 39);
        due("39 are there", need.lacks(0), 1);
        need.take(17);
        due("one is GONE", need.lacks(0), 0);
        need.box(0, 0);
        due("an empty BOX", need.lacking(), 39);
    }

    private static void madeOfTwo() {
        says("One that lacks may be made of two that are left: 1 of two 0; 2 of 0 and 1; 3 of two 1; 4 of two 1; 5 of two 2; 6 of two 4 (these not made again)");
        int[][] parts = {{}, {0, 0}, {0, 1}, {1, 1}, {1, 1}, {2, 2}, {4, 4}};
        for (int kind = 0; kind < 7; kind++) {
            for (int first = 0; first < 7; first++) {
                for (int second = first; second < 7; second++) {
                    BrickModels m = new BrickModels();
                    m.place(kind, 0, 0, 0, 0, 1);
                    m.box(first, 1);
                    m.box(second, first == second ? 2 : 1);
                    boolean there = first == kind || second == kind;
                    boolean made = parts[kind].length == 2 && parts[kind][0] == first && parts[kind][1] == second;
                    due("KIND " + kind + " of " + first + " and " + second, m.lacks(kind), there || made ? 0 : 1);
                }
            }
        }
        BrickModels again = new BrickModels();
        again.place(6, 0, 0, 0, 0, 1);
        again.place(5, 0, 0, 2, 0, 1);
        again.place(3, 0, 0, 4, 0, 1);
        again.box(0, 99);
        due("two 4, two 2 and two 1 are not made of 0", again.lacking(), 3);
        again.box(1, 2);
        due("two 1 make a 3 but no 4 for the 6", again.lacking(), 2);
    }

    private static void leftOver() {
        says("takes its two if both are left over (BOX less NEED of them, less what was taken)");
        BrickModels m = new BrickModels();
        m.place(1, 0, 0, 0, 0, 1);
        m.place(3, 0, 0, 1, 0, 1);
        m.box(1, 2);
        due("one of two is needed", m.lacks(3), 1);
        m.box(1, 3);
        due("one of three is needed", m.lacks(3), 0);
        m.place(3, 0, 0, 2, 0, 1);
        due("two were taken", m.lacks(3), 1);
        m.box(1, 4);
        due("two were taken, one is left", m.lacks(3), 1);
        m.box(1, 5);
        due("four were taken", m.lacks(3), 0);
        BrickModels less = new BrickModels();
        less.place(2, 0, 0, 0, 0, 1);
        less.place(1, 0, 0, 1, 0, 1);
        less.place(1, 0, 0, 2, 0, 1);
        less.box(0, 1);
        less.box(1, 1);
        due("more are needed than there are: 2", less.lacks(2), 1);
        due("more are needed than there are: 1", less.lacks(1), 1);
        less.box(0, 2);
        due("1 is made of two 0 that the 2 couldn't take", less.lacks(1), 0);
        due("the 2 can't", less.lacks(2), 1);
        due("LACKING in all", less.lacking(), 1);
    }

    private static void fromSixToOne() {
        says("KINDS from 6 to 1, each lacking one, one by one");
        BrickModels m = new BrickModels();
        m.place(3, 0, 0, 0, 0, 1);
        m.place(4, 0, 0, 1, 0, 1);
        m.box(1, 2);
        due("4 comes ahead of 3", m.lacks(4), 0);
        due("3 comes behind 4", m.lacks(3), 1);
        m.place(2, 0, 0, 3, 0, 1);
        m.place(1, 0, 0, 4, 0, 1);
        m.box(0, 2);
        m.box(1, 4);
        due("3 gets none: one 1 is needed, one is left", m.lacks(3), 1);
        due("2 takes the 1 that is left and a 0", m.lacks(2), 0);
        due("1 is there", m.lacks(1), 0);
        m.box(1, 0);
        due("1 takes two 0", m.lacks(1), 0);
        due("2 can't", m.lacks(2), 1);
        BrickModels zeros = new BrickModels();
        zeros.place(2, 0, 0, 0, 0, 1);
        zeros.place(1, 0, 0, 1, 0, 1);
        zeros.place(1, 0, 0, 2, 0, 1);
        zeros.box(0, 3);
        due("2 takes no 0 without a 1: 1 takes two, one is left", zeros.lacks(1), 1);
        zeros.box(0, 4);
        due("one by one", zeros.lacks(1), 0);
        says("what can't be met is LACKING");
        due("the 2", zeros.lacking(), 1);
        zeros.place(0, 0, 0, 3, 0, 1);
        due("a 0 is needed: three are left for two 1", zeros.lacking(), 2);
        BrickModels fives = new BrickModels();
        fives.place(5, 0, 0, 0, 0, 1);
        fives.place(5, 0, 0, 2, 0, 1);
        fives.place(5, 0, 0, 4, 0, 1);
        fives.box(5, 1);
        fives.box(2, 3);
        due("one is there, one is made, one is LACKING", fives.lacks(5), 1);
    }

    private static void orderIs(String what, BrickModels m, int... want) {
        for (int k = 0; k < want.length; k++) {
            due(what + ", step " + k, m.order(k), want[k]);
        }
        due(what + ", behind the last", m.order(want.length), -9);
        due(what + ", ahead of the first", m.order(-1), -9);
    }

    private static void orderFromAbove() {
        says("each comes from above: none that was put ahead of it covers an x, y of it in a higher LAYER");
        BrickModels m = new BrickModels();
        m.place(3, 0, 0, 0, 0, 1);
        m.place(3, 0, 0, 0, 1, 1);
        m.place(6, 0, 0, 0, 2, 1);
        m.place(0, 0, 0, 1, 0, 1);
        orderIs("what lies two LAYERS below comes ahead", m, 0, 1, 3, 2);
        m.take(3);
        m.place(0, 0, 4, 1, 0, 1);
        orderIs("what lies beside it may come behind", m, 0, 1, 2, 4);
        m.take(4);
        m.place(0, 0, 0, 2, 0, 1);
        orderIs("what lies beside it along y, too", m, 0, 1, 2, 5);
        BrickModels high = new BrickModels();
        for (int z = 0; z < 4; z++) {
            high.place(3, 0, 0, 0, z, 1);
        }
        high.place(6, 0, 0, 0, 4, 1);
        high.place(0, 0, 3, 1, 0, 1);
        orderIs("from the highest LAYER to the ground", high, 0, 1, 2, 3, 5, 4);
        BrickModels lid = new BrickModels();
        lid.place(6, 0, 0, 0, 1, 1);
        lid.place(3, 0, 0, 0, 0, 1);
        lid.place(0, 0, 3, 1, 0, 1);
        orderIs("the first by number lies above", lid, 1, 2, 0);
    }

    private static void orderOfTwelve() {
        says("a row of all BRICKS that are there (12 at most)");
        Setup twelve = x -> {
            for (int i = 0; i < 12; i++) {
                x.place(0, 0, i % 6, i / 6, 0, 1);
            }
        };
        Setup thirteen = x -> {
            twelve.on(x);
            x.place(0, 0, 5, 5, 0, 1);
        };
        BrickModels m = new BrickModels();
        orderIs("no BRICKS", m);
        twelve.on(m);
        orderIs("12 BRICKS", m, 0, 1, 2, 3, 4, 5, 6, 7, 8, 9, 10, 11);
        int[] steps = {0, 12, 13, -1, LOWEST, HIGHEST};
        for (int k : steps) {
            refused("13 BRICKS, k " + k, thirteen, x -> x.order(k), -6);
            refused("40 BRICKS, k " + k, Checks::forty, x -> x.order(k), -6);
        }
        int[] none = {12, -1, LOWEST, HIGHEST};
        for (int k : none) {
            calm("12 BRICKS, k " + k, twelve, x -> x.order(k), -9);
        }
        thirteen.on(m);
        due("13 are there", m.order(0), -6);
        m.take(0);
        orderIs("13 of which one is GONE", m, 1, 2, 3, 4, 5, 6, 7, 8, 9, 10, 11, 12);
        BrickModels turned = new BrickModels();
        for (int i = 0; i < 10; i++) {
            turned.place(0, 0, i / 5, 0, 4 - i % 5, 1);
        }
        orderIs("two towers from the highest on", turned, 4, 3, 2, 1, 0, 9, 8, 7, 6, 5);
    }

    private static void orderSound() {
        says("and behind each step all BRICKS that are put are SOUND");
        BrickModels tips = new BrickModels();
        tips.place(0, 0, 2, 0, 0, 1);
        tips.place(3, 0, 2, 0, 1, 1);
        tips.place(3, 0, 0, 0, 2, 1);
        due("SOUND as a whole", tips.sound(), 1);
        orderIs("it would tip over", tips);
        tips.place(0, 0, 4, 0, 0, 1);
        orderIs("not with a second foot", tips, 0, 3, 1, 2);
        BrickModels weighs = new BrickModels();
        weighs.grip(2);
        weighs.place(3, 0, 0, 0, 0, 1);
        weighs.place(0, 0, 0, 0, 1, 1);
        weighs.place(3, 0, 0, 0, 2, 1);
        weighs.place(0, 0, 3, 0, 1, 1);
        orderIs("4 CELLS by one STUD don't HOLD, so both come ahead", weighs, 0, 1, 3, 2);
        weighs.grip(4);
        orderIs("they HOLD, but it still comes from above", weighs, 0, 1, 3, 2);
        BrickModels hangs = new BrickModels();
        hangs.place(3, 0, 0, 0, 0, 1);
        hangs.place(0, 0, 3, 0, 1, 1);
        hangs.place(3, 1, 3, 0, 2, 1);
        hangs.place(0, 0, 3, 3, 1, 1);
        due("SOUND as a whole, one HANGS from above", hangs.sound(), 0);
        hangs.place(3, 0, 0, 3, 0, 1);
        due("SOUND with a foot below it", hangs.sound(), 1);
        orderIs("what is below comes ahead", hangs, 0, 1, 4, 3, 2);
        BrickModels below = new BrickModels();
        below.place(6, 0, 0, 0, 0, 1);
        below.place(6, 0, 0, 0, 1, 1);
        below.place(6, 1, 0, 0, 2, 1);
        below.place(0, 0, 0, 3, 1, 1);
        due("SOUND as a whole", below.sound(), 1);
        orderIs("it FLOATS, or comes from below", below);
    }

    private static void orderFirst() {
        says("The first such row by numbers");
        BrickModels m = new BrickModels();
        m.place(0, 0, 0, 0, 1, 1);
        m.place(0, 0, 5, 5, 1, 1);
        m.place(0, 0, 5, 5, 0, 1);
        m.place(0, 0, 0, 0, 0, 1);
        orderIs("the least that can go on at each step", m, 2, 1, 3, 0);
        m.take(2);
        m.take(1);
        m.place(0, 0, 1, 0, 0, 1);
        orderIs("with GONE ones", m, 3, 0, 4);
        BrickModels back = new BrickModels();
        back.place(0, 0, 0, 0, 0, 1);
        back.place(3, 0, 0, 0, 1, 1);
        back.place(0, 0, 3, 0, 0, 1);
        orderIs("the least at first, then what is needed", back, 0, 2, 1);
    }

    private static void seen() {
        says("0 from y below 0, 1 from x above 5, 2 from y above 5, 3 from x below 0, 4 from above");
        int[][] ends = {{2, 0, 2}, {5, 2, 2}, {2, 5, 2}, {0, 2, 2}, {2, 2, 4}};
        BrickModels m = new BrickModels();
        for (int side = 0; side < 5; side++) {
            m.place(0, 0, ends[side][0], ends[side][1], ends[side][2], side + 1);
        }
        m.place(0, 0, 2, 2, 2, 5);
        for (int side = 0; side < 5; side++) {
            due("the one at the end, side " + side, m.seen(side, 2, 2), side + 1);
        }
        for (int brick = 0; brick < 5; brick++) {
            m.take(brick);
        }
        for (int side = 0; side < 5; side++) {
            due("the one in the middle, side " + side, m.seen(side, 2, 2), 5);
        }
        m.take(5);
        for (int side = 0; side < 5; side++) {
            due("none, side " + side, m.seen(side, 2, 2), 0);
        }
        says("at u (x for 0, 2 and 4; y for 1, 3) and v (z; y for 4): the COLOUR of the first BRICK on that line; 0 none");
        BrickModels one = new BrickModels();
        one.place(0, 0, 1, 4, 3, 2);
        for (int side = 0; side < 5; side++) {
            int n = 0;
            for (int u = 0; u < 6; u++) {
                for (int v = 0; v < (side == 4 ? 6 : 5); v++) {
                    n += one.seen(side, u, v);
                }
            }
            due("it alone, side " + side, n, 2);
            due("where it is, side " + side, one.seen(side, side % 2 == 1 ? 4 : 1, side == 4 ? 4 : 3), 2);
        }
        int[][] first = {{0, 0, 0}, {5, 0, 0}, {0, 5, 0}, {5, 5, 0}, {0, 0, 4}, {5, 0, 4}, {0, 5, 4}, {5, 5, 4}};
        for (int[] corner : first) {
            BrickModels c = new BrickModels();
            c.place(0, 0, corner[0], corner[1], corner[2], 3);
            for (int side = 0; side < 5; side++) {
                due("a corner, side " + side,
                        c.seen(side, side % 2 == 1 ? corner[1] : corner[0], side == 4 ? corner[1] : corner[2]), 3);
            }
        }
    }
}
