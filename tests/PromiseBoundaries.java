/**
 * The promises of the document, sentence by sentence, at their boundaries: the least and the greatest
 * that is taken, what lies one beyond, each REFUSAL and which of them comes first.
 */
public final class PromiseBoundaries extends Checks {
    /** Numbers that no BRICK has if few were placed; some would be one of them if bits wrapped around. */
    private static final int[] NO_BRICKS = {-1, 4, 5, 31, 32, 39, 40, 63, 64, 65, 256, LOWEST, LOWEST + 1, HIGHEST};
    private static final int[] FAR = {LOWEST, LOWEST + 1, -36, -1, 7, 36, 64, 180, HIGHEST - 1, HIGHEST};

    public static void main(String[] args) {
        refusals();
        firstThatFits();
        newObject();
        objectsApart();
        cell();
        cellOf();
        inner();
        placeBeyond();
        placeRefusals();
        take();
        at();
        studs();
        pieces();
        piece();
        pieceOf();
        key();
        weak();
        sound();
        grip();
        fit();
        seams();
        cover();
        coverSeams();
        coverAt();
        lay();
        layAtForty();
        box();
        lacking();
        lacks();
        order();
        seen();
        brickOf();
        count();
        countRefusals();
        farNumbers();
        end();
    }

    private static void seventeen(BrickModels m) {
        cells(m, 0, 1, "####", "####", "####", "####", "#");
    }

    private static void thirteen(BrickModels m) {
        for (int i = 0; i < 13; i++) {
            m.place(0, 0, i % 6, i / 6, 0, 1);
        }
    }

    private static void refusals() {
        says("-1 NOBODY: no such CELL, COLOUR, KIND, BRICK, LAYER, PIECE");
        refused("CELL", Checks::some, x -> x.cellOf(6, 0, 0), -1);
        refused("COLOUR", Checks::some, x -> x.cover(6, 0), -1);
        refused("KIND", Checks::some, x -> x.lacks(7), -1);
        refused("BRICK", Checks::some, x -> x.take(4), -1);
        refused("LAYER", Checks::some, x -> x.cover(1, 5), -1);
        refused("PIECE", Checks::some, x -> x.pieceOf(2, 0), -1);
        says("-2 OTHER: what, side");
        refused("what", Checks::some, x -> x.fit(3), -2);
        refused("side", Checks::some, x -> x.seen(5, 0, 0), -2);
        says("-3 STATE: it is not as it must be");
        refused("GONE", Checks::some, x -> x.take(3), -3);
        refused("overlapping", Checks::some, x -> x.place(0, 0, 0, 0, 0, 1), -3);
        says("-4 BELOW: a number below the least");
        refused("GRIP", Checks::some, x -> x.grip(0), -4);
        refused("BOX", Checks::some, x -> x.box(0, -1), -4);
        says("-6 ROOM: a number above the greatest, no room");
        refused("GRIP", Checks::some, x -> x.grip(41), -6);
        refused("BOX", Checks::some, x -> x.box(0, 100), -6);
        refused("no room at the edge", Checks::some, x -> x.place(1, 0, 5, 0, 0, 1), -6);
        refused("no room for more BRICKS", Checks::forty, x -> x.place(0, 0, 0, 0, 4, 1), -6);
        refused("too many CELLS", PromiseBoundaries::seventeen, x -> x.cover(1, 0), -6);
        refused("too many BRICKS", PromiseBoundaries::thirteen, x -> x.order(0), -6);
    }

    private static void firstThatFits() {
        says("the call answers the number, the first that fits in the order in which it tells them; nothing changes but how many there were");
        refused("place: COLOUR, beyond", Checks::some, x -> x.place(6, 0, 5, 5, 0, 0), -1);
        refused("place: COLOUR, overlapping", Checks::some, x -> x.place(0, 0, 0, 0, 0, 6), -1);
        refused("place: COLOUR, 40", Checks::forty, x -> x.place(0, 0, 0, 0, 4, 0), -1);
        refused("place: KIND, overlapping, 40", Checks::forty, x -> x.place(7, 0, 0, 0, 0, 1), -1);
        refused("place: TURN, overlapping, 40", Checks::forty, x -> x.place(0, 2, 0, 0, 0, 1), -1);
        refused("place: CELL, beyond, 40", Checks::forty, x -> x.place(6, 0, 6, 0, 0, 1), -1);
        refused("place: LAYER, beyond, 40", Checks::forty, x -> x.place(6, 0, 5, 0, 5, 1), -1);
        refused("place: beyond, overlapping", Checks::some, x -> x.place(6, 1, 0, 3, 0, 1), -6);
        refused("place: beyond, overlapping at its start", Checks::some, x -> x.place(1, 1, 5, 5, 3, 1), -6);
        refused("place: overlapping, 40", Checks::forty, x -> x.place(0, 0, 0, 0, 0, 1), -3);
        refused("studs: nobody, GONE", Checks::some, x -> x.studs(3, 4), -1);
        refused("studs: GONE, nobody", Checks::some, x -> x.studs(-1, 3), -1);
        refused("studs: one, GONE", Checks::some, x -> x.studs(3, 3), -1);
        refused("pieceOf: PIECE, what", Checks::some, x -> x.pieceOf(2, 4), -1);
        refused("box: KIND, below", Checks::some, x -> x.box(-1, -1), -1);
        refused("box: KIND, above", Checks::some, x -> x.box(7, 100), -1);
        refused("seen: side, u", Checks::some, x -> x.seen(5, 6, 0), -2);
        refused("seen: side, v", Checks::some, x -> x.seen(-1, 0, 6), -2);
        refused("brickOf: BRICK, what", Checks::some, x -> x.brickOf(4, 7), -1);
        refused("cover: COLOUR, though 36 have none", PromiseBoundaries::seventeen, x -> x.cover(0, 1), -1);
        refused("coverAt: too many CELLS, none such", PromiseBoundaries::seventeen, x -> x.coverAt(1, 0, 99), -6);
        refused("coverAt: LAYER, none such", PromiseBoundaries::seventeen, x -> x.coverAt(1, 5, -1), -1);
        refused("order: too many BRICKS, none such", PromiseBoundaries::thirteen, x -> x.order(-1), -6);
    }

    private static void newObject() {
        says("No body, no BRICKS, an empty BOX.");
        BrickModels body = new BrickModels();
        for (int i = 0; i < 180; i++) {
            due("cellOf", body.cellOf(i % 6, i / 6 % 6, i / 36), 0);
            due("at", body.at(i % 6, i / 6 % 6, i / 36), -9);
        }
        due("CELLS", body.count(0), 0);
        due("INNER", body.inner(), 0);
        for (int what = 0; what < 3; what++) {
            due("fit", body.fit(what), 0);
        }
        BrickModels m = new BrickModels();
        due("BRICKS", m.count(1), 0);
        due("BRICKS ever", m.count(2), 0);
        due("KEYS", m.count(3), 0);
        due("PIECES that FLOAT", m.count(4), 0);
        due("GRIP", m.count(5), 8);
        due("SEAMS", m.seams(false), 0);
        due("SEAMS over SEAMS", m.seams(true), 0);
        due("SOUND", m.sound(), 1);
        due("ORDER", m.order(0), -9);
        due("LACKING", m.lacking(), 0);
        for (int i = 11; i <= 16; i++) {
            due("REFUSALS", m.count(i), 0);
        }
        for (int kind = 0; kind < 7; kind++) {
            due("box", m.box(kind, 0), 0);
        }
        for (int side = 0; side < 5; side++) {
            due("seen", m.seen(side, 5, 4), 0);
        }
        for (int i = 0; i < 25; i++) {
            due("cover", m.cover(1 + i % 5, i / 5), 0);
            due("coverSeams", m.coverSeams(1 + i % 5, i / 5), 0);
            due("coverAt", m.coverAt(1 + i % 5, i / 5, 0), -9);
            due("lay", m.lay(1 + i % 5, i / 5), 0);
        }
        for (int i = 11; i <= 16; i++) {
            due("none of these was refused", m.count(i), 0);
        }
        refused("take(0)", Checks::nothing, x -> x.take(0), -1);
        refused("piece(0)", Checks::nothing, x -> x.piece(0), -1);
        refused("pieceOf(0, 0)", Checks::nothing, x -> x.pieceOf(0, 0), -1);
        refused("key(0)", Checks::nothing, x -> x.key(0), -1);
        refused("weak(0)", Checks::nothing, x -> x.weak(0), -1);
        refused("brickOf(0, 0)", Checks::nothing, x -> x.brickOf(0, 0), -1);
        refused("studs(0, 1)", Checks::nothing, x -> x.studs(0, 1), -1);
    }

    private static void objectsApart() {
        says("No body, no BRICKS, an empty BOX.");
        BrickModels one = new BrickModels();
        some(one);
        one.take(99);
        BrickModels other = new BrickModels();
        due("CELLS", other.count(0), 0);
        due("BRICKS ever", other.count(2), 0);
        due("GRIP", other.count(5), 8);
        due("REFUSALS", other.count(11), 0);
        due("box", other.box(1, 0), 0);
        other.cell(0, 0, 0, 5);
        other.place(0, 0, 5, 0, 4, 5);
        due("the first keeps its CELL", one.cellOf(0, 0, 0), 1);
        due("the first has no BRICK there", one.at(5, 0, 4), -9);
        due("the first keeps its BOX", one.box(1, 0), 3);
    }

    private static void cell() {
        says("The COLOUR of a CELL (0: none) becomes v: what it was. -1.");
        BrickModels m = new BrickModels();
        due("first", m.cell(0, 0, 0, 5), 0);
        due("the same again", m.cell(0, 0, 0, 5), 5);
        due("another", m.cell(0, 0, 0, 1), 5);
        due("none", m.cell(0, 0, 0, 0), 1);
        due("none again", m.cell(0, 0, 0, 0), 0);
        due("no CELL", m.count(0), 0);
        int[][] bad = {{6, 0, 0, 1}, {-1, 0, 0, 1}, {0, 6, 0, 1}, {0, -1, 0, 1}, {0, 0, 5, 1}, {0, 0, -1, 1},
            {0, 0, 0, 6}, {0, 0, 0, -1}, {6, 6, 5, 6}, {-1, -1, -1, -1}};
        for (int[] b : bad) {
            refused("cell", PromiseBoundaries::seventeen, x -> x.cell(b[0], b[1], b[2], b[3]), -1);
        }
        BrickModels covered = new BrickModels();
        covered.place(0, 0, 2, 2, 2, 4);
        due("below a BRICK", covered.cell(2, 2, 2, 3), 0);
        due("a CELL is not a BRICK's COLOUR", covered.cellOf(2, 2, 2), 3);
        due("the BRICK keeps its COLOUR", covered.brickOf(0, 5), 4);
    }

    private static void cellOf() {
        says("COLOUR of a CELL. -1.");
        calm("the first", Checks::some, x -> x.cellOf(0, 0, 0), 1);
        calm("the last", Checks::some, x -> x.cellOf(5, 5, 4), 5);
        calm("none", Checks::some, x -> x.cellOf(5, 5, 3), 0);
        int[][] bad = {{6, 0, 0}, {-1, 0, 0}, {0, 6, 0}, {0, -1, 0}, {0, 0, 5}, {0, 0, -1}};
        for (int[] b : bad) {
            refused("cellOf", Checks::some, x -> x.cellOf(b[0], b[1], b[2]), -1);
        }
    }

    private static void inner() {
        says("How many INNER CELLS there are.");
        calm("few CELLS", Checks::some, BrickModels::inner, 0);
        calm("an empty body", Checks::nothing, BrickModels::inner, 0);
        Setup full = x -> {
            for (int i = 0; i < 180; i++) {
                x.cell(i % 6, i / 6 % 6, i / 36, 1);
            }
        };
        calm("a full body", full, BrickModels::inner, 48);
    }

    private static void placeBeyond() {
        says("-6 it goes beyond 5");
        int[] lengths = {1, 2, 3, 4, 2, 3, 4};
        int[] widths = {1, 1, 1, 1, 2, 2, 2};
        for (int kind = 0; kind < 7; kind++) {
            for (int turn = 0; turn < 2; turn++) {
                int wide = turn == 0 ? lengths[kind] : widths[kind];
                int deep = turn == 0 ? widths[kind] : lengths[kind];
                for (int i = 0; i < 36; i++) {
                    BrickModels m = new BrickModels();
                    boolean fits = i % 6 + wide <= 6 && i / 6 + deep <= 6;
                    due("KIND " + kind + " TURN " + turn + " at " + i, m.place(kind, turn, i % 6, i / 6, 4, 1), fits ? 0 : -6);
                    due("BRICKS", m.count(2), fits ? 1 : 0);
                    due("REFUSALS", m.count(16), fits ? 0 : 1);
                }
            }
        }
        refused("beyond x", Checks::some, x -> x.place(3, 0, 3, 0, 0, 1), -6);
        refused("beyond y", Checks::some, x -> x.place(3, 1, 0, 3, 4, 1), -6);
        refused("beyond x, on the last row", Checks::some, x -> x.place(1, 0, 5, 5, 4, 1), -6);
    }

    private static void placeRefusals() {
        says("A BRICK is placed: its number. -1 KIND, TURN (0, 1), COLOUR, CELL (where it begins); -6 it goes beyond 5; -3 it overlaps; -6 40 were placed.");
        int[][] nobody = {{7, 0, 0, 0, 4, 1}, {-1, 0, 0, 0, 4, 1}, {0, 2, 0, 0, 4, 1}, {0, -1, 0, 0, 4, 1},
            {0, 0, 0, 0, 4, 6}, {0, 0, 0, 0, 4, 0}, {0, 0, 6, 0, 4, 1}, {0, 0, -1, 0, 4, 1}, {0, 0, 0, 6, 4, 1},
            {0, 0, 0, -1, 4, 1}, {0, 0, 0, 0, 5, 1}, {0, 0, 0, 0, -1, 1}, {3, 0, -1, 0, 4, 1}, {3, 1, 0, -1, 4, 1}};
        for (int[] b : nobody) {
            refused("nobody", Checks::some, x -> x.place(b[0], b[1], b[2], b[3], b[4], b[5]), -1);
        }
        BrickModels m = new BrickModels();
        for (int i = 0; i < 39; i++) {
            m.place(0, 0, i % 6, i / 6 % 6, i / 36, 1);
        }
        due("the 40th", m.place(6, 1, 4, 2, 4, 5), 39);
        due("the 41st", m.place(6, 1, 4, 2, 3, 5), -6);
        due("the 41st overlaps", m.place(6, 1, 4, 2, 4, 5), -3);
        due("all 40 are there", m.count(1), 40);
        due("one PIECE each, but for three pairs", m.pieces(), 37);
        due("the last PIECE's CELLS", m.pieceOf(36, 0), 8);
    }

    private static void take() {
        says("A BRICK is GONE: 1. -1; -3 it is.");
        BrickModels m = new BrickModels();
        forty(m);
        due("the first", m.take(0), 1);
        due("the last", m.take(39), 1);
        due("the first again", m.take(0), -3);
        due("the last again", m.take(39), -3);
        due("behind the last", m.take(40), -1);
        due("38 are there", m.count(1), 38);
        for (int brick : NO_BRICKS) {
            refused("take(" + brick + ")", Checks::some, x -> x.take(brick), -1);
        }
        refused("GONE", Checks::some, x -> x.take(3), -3);
        refused("40 of 40", Checks::forty, x -> x.take(40), -1);
        BrickModels all = new BrickModels();
        some(all);
        all.take(0);
        all.take(1);
        all.take(2);
        due("none is left", all.count(1), 0);
        due("no PIECES", all.pieces(), 0);
        due("nothing is seen", all.seen(4, 0, 0), 0);
        due("nothing LACKS", all.lacking(), 0);
        due("SOUND", all.sound(), 1);
    }

    private static void at() {
        says("The BRICK at a CELL; -9 none. -1.");
        calm("the first CELL", Checks::forty, x -> x.at(0, 0, 0), 0);
        calm("the last CELL with one", Checks::forty, x -> x.at(3, 0, 1), 39);
        calm("none", Checks::forty, x -> x.at(4, 0, 1), -9);
        calm("the last CELL", Checks::forty, x -> x.at(5, 5, 4), -9);
        calm("GONE", Checks::some, x -> x.at(4, 5, 0), -9);
        int[][] bad = {{6, 0, 0}, {-1, 1, 0}, {0, 6, 0}, {0, -1, 1}, {0, 0, 5}, {0, 0, -1}};
        for (int[] b : bad) {
            refused("at", Checks::forty, x -> x.at(b[0], b[1], b[2]), -1);
        }
    }

    private static void studs() {
        says("STUDS of two BRICKS. -1 (also if they are one); -3 one is GONE.");
        for (int brick : NO_BRICKS) {
            refused("studs(0, " + brick + ")", Checks::some, x -> x.studs(0, brick), -1);
            refused("studs(" + brick + ", 1)", Checks::some, x -> x.studs(brick, 1), -1);
            refused("studs(3, " + brick + ")", Checks::some, x -> x.studs(3, brick), -1);
            refused("both " + brick, Checks::some, x -> x.studs(brick, brick), -1);
        }
        for (int brick = 0; brick < 4; brick++) {
            int b = brick;
            refused("one", Checks::some, x -> x.studs(b, b), -1);
        }
        refused("the second is GONE", Checks::some, x -> x.studs(1, 3), -3);
        refused("the first is GONE", Checks::some, x -> x.studs(3, 1), -3);
        Setup bothGone = x -> {
            some(x);
            x.take(0);
        };
        refused("both are GONE", bothGone, x -> x.studs(0, 3), -3);
        calm("none", Checks::some, x -> x.studs(0, 2), 0);
        calm("some", Checks::some, x -> x.studs(0, 1), 4);
    }

    private static void pieces() {
        says("How many PIECES there are.");
        calm("none", Checks::nothing, BrickModels::pieces, 0);
        calm("two", Checks::some, BrickModels::pieces, 2);
        calm("36", Checks::forty, BrickModels::pieces, 36);
    }

    private static void piece() {
        says("The PIECE of a BRICK (numbered by their least BRICKS). -1; -3 GONE.");
        BrickModels m = new BrickModels();
        m.place(0, 0, 5, 5, 0, 1);
        m.place(0, 0, 3, 3, 0, 1);
        m.place(0, 0, 1, 1, 0, 1);
        m.place(0, 0, 5, 5, 1, 1);
        m.place(0, 0, 1, 1, 1, 1);
        m.place(0, 0, 3, 3, 1, 1);
        int[] want = {0, 1, 2, 0, 2, 1};
        for (int brick = 0; brick < 6; brick++) {
            due("the PIECE of " + brick, m.piece(brick), want[brick]);
        }
        m.take(0);
        int[] then = {-3, 0, 1, 2, 1, 0};
        for (int brick = 0; brick < 6; brick++) {
            due("then the PIECE of " + brick, m.piece(brick), then[brick]);
        }
        for (int brick : NO_BRICKS) {
            refused("piece(" + brick + ")", Checks::some, x -> x.piece(brick), -1);
        }
        refused("GONE", Checks::some, x -> x.piece(3), -3);
        refused("40 of 40", Checks::forty, x -> x.piece(40), -1);
        calm("the last of 40", Checks::forty, x -> x.piece(39), 3);
    }

    private static void pieceOf() {
        says("Of a PIECE: 0 its CELLS, 1 1 if it FLOATS, 2 1 if it STANDS, 3 BRICKS. -1; -2.");
        int[] first = {12, 0, 1, 2};
        int[] second = {1, 1, 0, 1};
        for (int i = 0; i < 4; i++) {
            int what = i;
            calm("the first", Checks::some, x -> x.pieceOf(0, what), first[what]);
            calm("the last", Checks::some, x -> x.pieceOf(1, what), second[what]);
            refused("behind the last", Checks::some, x -> x.pieceOf(2, what), -1);
            refused("ahead of the first", Checks::some, x -> x.pieceOf(-1, what), -1);
            refused("of none", Checks::nothing, x -> x.pieceOf(0, what), -1);
            refused("36 of 36", Checks::forty, x -> x.pieceOf(36, what), -1);
        }
        int[] noWhat = {-1, 4, 10, LOWEST, HIGHEST};
        for (int what : noWhat) {
            refused("what " + what, Checks::some, x -> x.pieceOf(0, what), -2);
            refused("what " + what + ", the last", Checks::some, x -> x.pieceOf(1, what), -2);
            refused("PIECE and what " + what, Checks::some, x -> x.pieceOf(2, what), -1);
        }
        for (int piece : NO_BRICKS) {
            refused("PIECE " + piece, Checks::some, x -> x.pieceOf(piece, 0), -1);
        }
        refused("all are GONE", x -> {
            x.place(0, 0, 0, 0, 0, 1);
            x.take(0);
        }, x -> x.pieceOf(0, 0), -1);
    }

    private static void key() {
        says("Whether a BRICK is a KEY: 1, 0. -1; -3 GONE.");
        Setup tower = x -> {
            for (int z = 0; z < 5; z++) {
                x.place(0, 0, 0, 0, z, 1);
            }
        };
        int[] want = {0, 1, 1, 1, 0};
        for (int i = 0; i < 5; i++) {
            int brick = i;
            calm("of a tower, " + brick, tower, x -> x.key(brick), want[brick]);
        }
        for (int brick : NO_BRICKS) {
            refused("key(" + brick + ")", Checks::some, x -> x.key(brick), -1);
        }
        refused("GONE", Checks::some, x -> x.key(3), -3);
        refused("40 of 40", Checks::forty, x -> x.key(40), -1);
        calm("the last of 40", Checks::forty, x -> x.key(39), 0);
        BrickModels gone = new BrickModels();
        tower.on(gone);
        gone.take(2);
        due("no KEY any more, below", gone.key(1), 0);
        due("no KEY any more, above", gone.key(3), 0);
        due("GONE", gone.key(2), -3);
    }

    private static void weak() {
        says("How many things that HANG BY a BRICK don't HOLD. -1; -3 GONE.");
        Setup five = x -> {
            x.grip(1);
            x.place(3, 0, 0, 0, 0, 1);
            x.place(3, 0, 0, 0, 1, 1);
            for (int i = 0; i < 4; i++) {
                x.place(1, 1, i, 0, 2, 1);
            }
        };
        calm("four things", five, x -> x.weak(1), 4);
        calm("no KEY", five, x -> x.weak(0), 0);
        calm("one of the things", five, x -> x.weak(5), 0);
        for (int brick : NO_BRICKS) {
            refused("weak(" + brick + ")", Checks::some, x -> x.weak(brick), -1);
        }
        refused("GONE", Checks::some, x -> x.weak(3), -3);
        refused("40 of 40", Checks::forty, x -> x.weak(40), -1);
        calm("the last of 40", Checks::forty, x -> x.weak(39), 0);
    }

    private static void sound() {
        says("1 SOUND, else 0.");
        calm("no BRICKS", Checks::nothing, BrickModels::sound, 1);
        calm("one FLOATS", Checks::some, BrickModels::sound, 0);
        calm("40 that STAND", Checks::forty, BrickModels::sound, 1);
    }

    private static void grip() {
        says("GRIP: what it was. -4; -6.");
        BrickModels m = new BrickModels();
        due("the least", m.grip(1), 8);
        due("the greatest", m.grip(40), 1);
        due("the same again", m.grip(40), 40);
        due("refused below", m.grip(0), -4);
        due("refused above", m.grip(41), -6);
        due("it stays", m.grip(2), 40);
        int[] below = {0, -1, -40, LOWEST, LOWEST + 1};
        for (int v : below) {
            refused("grip(" + v + ")", Checks::some, x -> x.grip(v), -4);
        }
        int[] above = {41, 42, 100, HIGHEST - 1, HIGHEST};
        for (int v : above) {
            refused("grip(" + v + ")", Checks::some, x -> x.grip(v), -6);
        }
    }

    private static void fit() {
        says("FIT: MISSING (0), WRONG (1), BEYOND (2) CELLS. -2.");
        calm("MISSING", Checks::some, x -> x.fit(0), 3);
        calm("WRONG", Checks::some, x -> x.fit(1), 0);
        calm("BEYOND", Checks::some, x -> x.fit(2), 12);
        int[] noWhat = {-1, 3, -2, 4, LOWEST, HIGHEST};
        for (int what : noWhat) {
            refused("fit(" + what + ")", Checks::some, x -> x.fit(what), -2);
        }
    }

    private static void seams() {
        says("How many SEAMS (over false), or SEAMS over SEAMS (true), there are.");
        calm("none", Checks::nothing, x -> x.seams(false), 0);
        calm("none over", Checks::nothing, x -> x.seams(true), 0);
        calm("of 40", Checks::forty, x -> x.seams(false), 63);
        calm("of 40, over", Checks::forty, x -> x.seams(true), 3);
    }

    private static final int[][] NO_COVER = {{0, 0}, {6, 0}, {-1, 0}, {1, -1}, {1, 5}, {0, 5}, {6, -1}, {LOWEST, 0},
        {HIGHEST, 0}, {1, LOWEST}, {1, HIGHEST}};

    private static void cover() {
        says("BEST COVER: how many BRICKS (0 without CELLS). -1; -6 more than 16 CELLS.");
        calm("without CELLS", Checks::nothing, x -> x.cover(1, 0), 0);
        calm("all are covered", x -> {
            x.place(6, 0, 0, 0, 4, 3);
            cells(x, 4, 5, "####", "####");
        }, x -> x.cover(5, 4), 0);
        calm("16 apart", x -> cells(x, 4, 5, "#.#.#.", ".#.#.#", "#.#.#.", ".#.#.#", "#.#.#.", ".#...."),
                x -> x.cover(5, 4), 16);
        refused("17 apart", x -> cells(x, 4, 5, "#.#.#.", ".#.#.#", "#.#.#.", ".#.#.#", "#.#.#.", ".#.#.."),
                x -> x.cover(5, 4), -6);
        for (int[] b : NO_COVER) {
            refused("cover", PromiseBoundaries::seventeen, x -> x.cover(b[0], b[1]), -1);
        }
        refused("17 CELLS", PromiseBoundaries::seventeen, x -> x.cover(1, 0), -6);
    }

    private static void coverSeams() {
        says("New SEAMS over SEAMS of it. -1; -6.");
        calm("without CELLS", Checks::forty, x -> x.coverSeams(1, 0), 0);
        calm("16 apart over a full LAYER", x -> {
            for (int i = 0; i < 36; i++) {
                x.place(0, 0, i % 6, i / 6, 0, 1);
            }
            cells(x, 1, 2, "#.#.#.", ".#.#.#", "#.#.#.", ".#.#.#", "#.#.#.", ".#....");
        }, x -> x.coverSeams(2, 1), 0);
        calm("17 of which one is covered, over a full LAYER", x -> {
            for (int i = 0; i < 36; i++) {
                x.place(0, 0, i % 6, i / 6, 0, 1);
            }
            cells(x, 1, 2, "####", "####", "####", "#####");
            x.place(0, 0, 4, 3, 1, 1);
        }, x -> x.coverSeams(2, 1), 4 + 1);
        for (int[] b : NO_COVER) {
            refused("coverSeams", PromiseBoundaries::seventeen, x -> x.coverSeams(b[0], b[1]), -1);
        }
        refused("17 CELLS", PromiseBoundaries::seventeen, x -> x.coverSeams(1, 0), -6);
    }

    private static void coverAt() {
        says("The i-th BRICK of it as told: KIND, 10 times TURN, 100 times x, 1000 times y, added; -9 there is none. -1; -6.");
        Setup last = x -> cells(x, 4, 5, "......", "......", "#...##", "....##", "....##", "....##");
        calm("the first", last, x -> x.coverAt(5, 4, 0), 2000);
        calm("the last: KIND 6, TURN 1, x 4, y 2", last, x -> x.coverAt(5, 4, 1), 2416);
        int[] none = {2, 3, 15, 16, 17, 100, -1, LOWEST, HIGHEST};
        for (int i : none) {
            calm("coverAt(5, 4, " + i + ")", last, x -> x.coverAt(5, 4, i), -9);
            calm("without CELLS, " + i, last, x -> x.coverAt(5, 3, i), -9);
            refused("17 CELLS, " + i, PromiseBoundaries::seventeen, x -> x.coverAt(1, 0, i), -6);
            refused("no COLOUR, " + i, last, x -> x.coverAt(0, 4, i), -1);
        }
        calm("the last of 16", x -> cells(x, 4, 5, "#.#.#.", ".#.#.#", "#.#.#.", ".#.#.#", "#.#.#.", ".#...."),
                x -> x.coverAt(5, 4, 15), 5100);
        calm("behind 16", x -> cells(x, 4, 5, "#.#.#.", ".#.#.#", "#.#.#.", ".#.#.#", "#.#.#.", ".#...."),
                x -> x.coverAt(5, 4, 16), -9);
        calm("the last corner", x -> x.cell(5, 5, 0, 1), x -> x.coverAt(1, 0, 0), 5500);
        for (int[] b : NO_COVER) {
            refused("coverAt", PromiseBoundaries::seventeen, x -> x.coverAt(b[0], b[1], 0), -1);
        }
    }

    private static void lay() {
        says("BEST COVER is placed: how many BRICKS. -1; -6 (40, too: none is).");
        calm("without CELLS", Checks::some, x -> x.lay(2, 0), 0);
        calm("without CELLS at 40", Checks::forty, x -> x.lay(2, 0), 0);
        for (int[] b : NO_COVER) {
            refused("lay", PromiseBoundaries::seventeen, x -> x.lay(b[0], b[1]), -1);
        }
        refused("17 CELLS", PromiseBoundaries::seventeen, x -> x.lay(1, 0), -6);
        BrickModels m = new BrickModels();
        cells(m, 4, 5, "#.#.#.", ".#.#.#", "#.#.#.", ".#.#.#", "#.#.#.", ".#....");
        due("16 BRICKS", m.lay(5, 4), 16);
        due("16 ever", m.count(2), 16);
        for (int brick = 0; brick < 16; brick++) {
            int x = brick % 3 * 2 + brick / 3 % 2;
            int[] want = {0, 0, x, brick / 3, 4, 5, 0};
            for (int what = 0; what < 7; what++) {
                due("BRICK " + brick + ", " + what, m.brickOf(brick, what), want[what]);
            }
        }
        due("again: nothing is left", m.lay(5, 4), 0);
        due("nothing is MISSING", m.fit(0), 0);
        due("nothing is WRONG", m.fit(1), 0);
    }

    private static void layAtForty() {
        says("-6 (40, too: none is)");
        for (int ever = 37; ever <= 40; ever++) {
            int n = ever;
            Setup setup = x -> {
                for (int i = 0; i < n; i++) {
                    x.place(0, 0, i % 6, i / 6 % 6, i / 36, 1);
                }
                cells(x, 4, 5, "#.#.#.");
            };
            if (ever == 37) {
                BrickModels m = new BrickModels();
                setup.on(m);
                due("three at 37", m.lay(5, 4), 3);
                due("40 ever", m.count(2), 40);
                due("the last", m.at(4, 0, 4), 39);
                due("no refusal", m.count(16), 0);
            } else {
                refused("three at " + ever, setup, x -> x.lay(5, 4), -6);
            }
            calm("the COVER is told at " + ever, setup, x -> x.cover(5, 4), 3);
        }
        refused("17 CELLS and 40 are one REFUSAL", x -> {
            forty(x);
            cells(x, 4, 5, "####", "####", "####", "#####");
        }, x -> x.lay(5, 4), -6);
    }

    private static void box() {
        says("So many of a KIND are in THE BOX: what it was. -1; -4; -6.");
        BrickModels m = new BrickModels();
        due("the greatest", m.box(6, 99), 0);
        due("the same again", m.box(6, 99), 99);
        due("refused above", m.box(6, 100), -6);
        due("refused below", m.box(6, -1), -4);
        due("it stays", m.box(6, 0), 99);
        due("none", m.box(6, 0), 0);
        int[] kinds = {-1, 7, LOWEST, HIGHEST};
        int[] numbers = {-1, 0, 99, 100, LOWEST, HIGHEST};
        for (int kind : kinds) {
            for (int n : numbers) {
                refused("box(" + kind + ", " + n + ")", Checks::some, x -> x.box(kind, n), -1);
            }
        }
    }

    private static void lacking() {
        says("INSTEAD: how many BRICKS are LACKING in all.");
        calm("no BRICKS", Checks::nothing, BrickModels::lacking, 0);
        calm("40, an empty BOX", Checks::forty, BrickModels::lacking, 40);
        calm("40, a full BOX", x -> {
            forty(x);
            x.box(0, 99);
        }, BrickModels::lacking, 0);
        calm("one of each KIND, an empty BOX", PromiseBoundaries::oneOfEach, BrickModels::lacking, 7);
        calm("one of each KIND and one in the BOX", x -> {
            oneOfEach(x);
            for (int kind = 0; kind < 7; kind++) {
                x.box(kind, 1);
            }
        }, BrickModels::lacking, 0);
    }

    private static void oneOfEach(BrickModels m) {
        for (int kind = 0; kind < 7; kind++) {
            m.place(kind, 0, 0, kind % 3 * 2, kind / 3, 1);
        }
    }

    private static void lacks() {
        says("How many of a KIND are LACKING. -1.");
        for (int i = 0; i < 7; i++) {
            int kind = i;
            calm("one of each KIND", PromiseBoundaries::oneOfEach, x -> x.lacks(kind), 1);
            calm("no BRICKS", Checks::nothing, x -> x.lacks(kind), 0);
            calm("40 of KIND 0", Checks::forty, x -> x.lacks(kind), kind == 0 ? 40 : 0);
        }
        int[] kinds = {-1, 7, 8, LOWEST, HIGHEST};
        for (int kind : kinds) {
            refused("lacks(" + kind + ")", Checks::some, x -> x.lacks(kind), -1);
        }
    }

    private static void order() {
        says("The BRICK that is k-th in ORDER; -9 there is none such, or no ORDER. -6 more than 12 BRICKS.");
        Setup tower = x -> {
            for (int z = 4; z >= 0; z--) {
                x.place(0, 0, 0, 0, z, 1);
            }
        };
        int[] none = {5, 6, 12, 40, -1, LOWEST, HIGHEST};
        for (int k = 0; k < 5; k++) {
            int step = k;
            calm("a tower, " + k, tower, x -> x.order(step), 4 - step);
            calm("one FLOATS, " + k, Checks::some, x -> x.order(step), -9);
            calm("no BRICKS, " + k, Checks::nothing, x -> x.order(step), -9);
        }
        for (int k : none) {
            calm("a tower, " + k, tower, x -> x.order(k), -9);
            calm("no ORDER, " + k, Checks::some, x -> x.order(k), -9);
            calm("no BRICKS, " + k, Checks::nothing, x -> x.order(k), -9);
            refused("13, " + k, PromiseBoundaries::thirteen, x -> x.order(k), -6);
        }
        refused("13 of which one FLOATS", x -> {
            thirteen(x);
            x.take(12);
            x.place(0, 0, 5, 5, 4, 1);
        }, x -> x.order(0), -6);
        calm("12 of which one FLOATS", x -> {
            thirteen(x);
            x.take(12);
            x.take(11);
            x.place(0, 0, 5, 5, 4, 1);
        }, x -> x.order(0), -9);
        BrickModels twelve = new BrickModels();
        for (int i = 0; i < 12; i++) {
            twelve.place(0, 0, i / 4, 0, 3 - i % 4, 1);
        }
        int[] want = {3, 2, 1, 0, 7, 6, 5, 4, 11, 10, 9, 8, -9};
        for (int k = 0; k < 13; k++) {
            due("three towers, " + k, twelve.order(k), want[k]);
        }
    }

    private static void seen() {
        says("SEEN. -2; -1 u, v.");
        int[] noSide = {-1, 5, 6, LOWEST, HIGHEST};
        for (int side : noSide) {
            refused("side " + side, Checks::some, x -> x.seen(side, 0, 0), -2);
            refused("side " + side + " and u", Checks::some, x -> x.seen(side, 6, 0), -2);
            refused("side " + side + " and v", Checks::some, x -> x.seen(side, 0, -1), -2);
        }
        int[] beyond = {-1, 6, LOWEST, HIGHEST};
        for (int i = 0; i < 5; i++) {
            int side = i;
            int top = side == 4 ? 5 : 4;
            for (int b : beyond) {
                refused("side " + side + ", u " + b, Checks::forty, x -> x.seen(side, b, 0), -1);
                refused("side " + side + ", v " + b, Checks::forty, x -> x.seen(side, 0, b), -1);
            }
            refused("side " + side + ", one v too high", Checks::forty, x -> x.seen(side, 0, top + 1), -1);
            calm("side " + side + ", the greatest v", Checks::forty, x -> x.seen(side, 0, top), side == 4 ? 1 : 0);
            calm("side " + side + ", the greatest u", Checks::forty, x -> x.seen(side, 5, 0), 1);
            calm("side " + side + ", the least", Checks::forty, x -> x.seen(side, 0, 0), 1);
        }
    }

    private static void brickOf() {
        says("Of a BRICK: 0 KIND, 1 TURN, 2 x, 3 y, 4 z, 5 COLOUR, 6 1 if it is GONE. -1; -2.");
        Setup far = x -> x.place(6, 1, 4, 2, 3, 5);
        int[] want = {6, 1, 4, 2, 3, 5, 0};
        int[] gone = {1, 1, 4, 4, 0, 4, 1};
        for (int i = 0; i < 7; i++) {
            int what = i;
            calm("one, " + what, far, x -> x.brickOf(0, what), want[what]);
            calm("GONE, " + what, Checks::some, x -> x.brickOf(3, what), gone[what]);
            refused("none, " + what, Checks::nothing, x -> x.brickOf(0, what), -1);
            for (int brick : NO_BRICKS) {
                refused("brickOf(" + brick + ", " + what + ")", Checks::some, x -> x.brickOf(brick, what), -1);
            }
        }
        int[] noWhat = {-1, 7, 8, LOWEST, HIGHEST};
        for (int what : noWhat) {
            refused("what " + what, far, x -> x.brickOf(0, what), -2);
            refused("what " + what + ", GONE", Checks::some, x -> x.brickOf(3, what), -2);
            refused("what " + what + ", no BRICK", Checks::some, x -> x.brickOf(4, what), -1);
        }
        refused("40 of 40", Checks::forty, x -> x.brickOf(40, 0), -1);
        calm("39 of 40", Checks::forty, x -> x.brickOf(39, 2), 3);
    }

    private static void count() {
        says("0 CELLS of the body, 1 BRICKS that are there, 2 BRICKS ever, 3 KEYS, 4 PIECES that FLOAT, 5 GRIP");
        int[] of = {4, 3, 4, 0, 1, 2};
        int[] ofForty = {0, 40, 40, 0, 0, 8};
        int[] ofNone = {0, 0, 0, 0, 0, 8};
        for (int i = 0; i < 6; i++) {
            int what = i;
            calm("some, " + what, Checks::some, x -> x.count(what), of[what]);
            calm("40, " + what, Checks::forty, x -> x.count(what), ofForty[what]);
            calm("none, " + what, Checks::nothing, x -> x.count(what), ofNone[what]);
        }
        BrickModels keys = new BrickModels();
        for (int i = 0; i < 40; i++) {
            keys.place(0, 0, i % 8 % 6, i % 8 / 6, i / 8, 1);
        }
        due("KEYS of eight towers of five", keys.count(3), 24);
        BrickModels air = new BrickModels();
        for (int i = 0; i < 40; i++) {
            air.place(0, 0, i % 6, i / 6 % 6, i < 36 ? 1 : 3, 1);
        }
        due("40 that FLOAT", air.count(4), 40);
    }

    private static void countRefusals() {
        says("11 .. 16 REFUSALS -1 .. -6. -9 for another what.");
        int[] other = {-1, 6, 7, 8, 9, 10, 17, 18, -11, LOWEST, HIGHEST};
        for (int what : other) {
            calm("count(" + what + ")", Checks::some, x -> x.count(what), -9);
        }
        BrickModels m = new BrickModels();
        m.place(0, 0, 0, 0, 0, 1);
        m.take(0);
        int[] want = new int[7];
        for (int round = 1; round <= 5; round++) {
            due("-1", m.take(1), -1);
            due("-2", m.fit(3), -2);
            due("-3", m.take(0), -3);
            due("-4", m.grip(0), -4);
            due("-6", m.grip(41), -6);
            for (int i = 1; i <= 6; i++) {
                want[i] += i == 5 ? 0 : 1;
                due("count(" + (10 + i) + "), round " + round, m.count(10 + i), want[i]);
            }
        }
        due("-1 once more", m.seen(0, 6, 0), -1);
        due("count(11)", m.count(11), 6);
        due("count(12)", m.count(12), 5);
        due("-9 is no REFUSAL", m.at(0, 0, 0), -9);
        due("-9 is none either", m.count(17), -9);
        due("-9 of ORDER", m.order(0), -9);
        due("-9 of a COVER", m.coverAt(1, 0, 0), -9);
        for (int i = 1; i <= 6; i++) {
            due("count(" + (10 + i) + ") behind them", m.count(10 + i), want[i] + (i == 1 ? 1 : 0));
        }
    }

    /** Each number of each call, far beyond what is taken: none comes around to what is there. */
    private static void farNumbers() {
        says("-1 NOBODY: no such CELL, COLOUR, KIND, BRICK, LAYER, PIECE");
        for (int f : FAR) {
            Call[] nobody = {x -> x.cell(f, 0, 0, 1), x -> x.cell(0, f, 0, 1), x -> x.cell(0, 0, f, 1),
                x -> x.cell(0, 0, 0, f), x -> x.cellOf(f, 0, 0), x -> x.cellOf(0, f, 0), x -> x.cellOf(0, 0, f),
                x -> x.place(f, 0, 0, 0, 4, 1), x -> x.place(0, f, 0, 0, 4, 1), x -> x.place(0, 0, f, 0, 4, 1),
                x -> x.place(0, 0, 0, f, 4, 1), x -> x.place(0, 0, 0, 0, f, 1), x -> x.place(0, 0, 0, 0, 4, f),
                x -> x.take(f), x -> x.at(f, 0, 0), x -> x.at(0, f, 0), x -> x.at(0, 0, f), x -> x.studs(f, 0),
                x -> x.studs(0, f), x -> x.piece(f), x -> x.pieceOf(f, 0), x -> x.key(f), x -> x.weak(f),
                x -> x.cover(f, 0), x -> x.cover(1, f), x -> x.coverSeams(f, 0), x -> x.coverSeams(1, f),
                x -> x.coverAt(f, 0, 0), x -> x.coverAt(1, f, 0), x -> x.lay(f, 0), x -> x.lay(1, f),
                x -> x.box(f, 1), x -> x.lacks(f), x -> x.seen(0, f, 0), x -> x.seen(0, 0, f), x -> x.seen(4, f, 0),
                x -> x.seen(4, 0, f), x -> x.brickOf(f, 0)};
            for (int i = 0; i < nobody.length; i++) {
                refused("call " + i + " of " + f, Checks::some, nobody[i], -1);
            }
        }
    }
}
