import java.util.Arrays;

/** Models of studded bricks that are to hold a wished body. */
public final class BrickModels {
    private static final int NOBODY = -1;
    private static final int OTHER = -2;
    private static final int STATE = -3;
    private static final int BELOW = -4;
    private static final int ROOM = -6;
    private static final int NONE = -9;

    private static final int SIDE = 6;
    private static final int HEIGHT = 5;
    private static final int SPOTS = 36;
    private static final int CELLS = 180;
    private static final int COLOURS = 5;
    private static final int KINDS = 7;
    private static final int MOST_BRICKS = 40;
    private static final int MOST_GRIP = 40;
    private static final int MOST_IN_BOX = 99;
    private static final int FROM_ABOVE = 4;
    private static final int NO_BRICK = -1;

    private final Body body;
    private final Bricks bricks;
    private final Hanging hanging;
    private final Covers covers;
    private final Orders orders;
    private final Box box;
    private final int[] refusals;

    public BrickModels() {
        Body wished = new Body();
        Bricks model = new Bricks();
        Hanging parts = new Hanging(model);
        body = wished;
        bricks = model;
        hanging = parts;
        covers = new Covers(wished, model);
        orders = new Orders(model, parts);
        box = new Box(model);
        refusals = new int[7];
    }

    public int cell(int x, int y, int z, int v) {
        if (!isPlace(x, y, z) || v < 0 || v > COLOURS) {
            return refuse(NOBODY);
        }
        forgetAnswers();
        return body.paint(x, y, z, v);
    }

    public int cellOf(int x, int y, int z) {
        return isPlace(x, y, z) ? body.colourAt(x, y, z) : refuse(NOBODY);
    }

    public int inner() {
        return body.countInner();
    }

    public int place(int kind, int turn, int x, int y, int z, int colour) {
        if (!isKind(kind) || turn < 0 || turn > 1 || !isBrickColour(colour) || !isPlace(x, y, z)) {
            return refuse(NOBODY);
        }
        if (x + Bricks.alongX(kind, turn) > SIDE || y + Bricks.alongY(kind, turn) > SIDE) {
            return refuse(ROOM);
        }
        if (bricks.overlapsAny(Bricks.footprint(kind, turn, x, y), z)) {
            return refuse(STATE);
        }
        if (bricks.ever() >= MOST_BRICKS) {
            return refuse(ROOM);
        }
        forgetAnswers();
        return bricks.add(kind, turn, x, y, z, colour);
    }

    public int take(int brick) {
        int refusal = refusalOf(brick);
        if (refusal != 0) {
            return refuse(refusal);
        }
        forgetAnswers();
        bricks.remove(brick);
        return 1;
    }

    public int at(int x, int y, int z) {
        if (!isPlace(x, y, z)) {
            return refuse(NOBODY);
        }
        int brick = bricks.brickAt(x, y, z);
        return brick == NO_BRICK ? NONE : brick;
    }

    public int studs(int a, int b) {
        if (!bricks.exists(a) || !bricks.exists(b) || a == b) {
            return refuse(NOBODY);
        }
        if (!bricks.isThere(a) || !bricks.isThere(b)) {
            return refuse(STATE);
        }
        return bricks.sharedStuds(a, b);
    }

    public int pieces() {
        return hanging.countPieces();
    }

    public int piece(int brick) {
        int refusal = refusalOf(brick);
        return refusal != 0 ? refuse(refusal) : hanging.numberOfPiece(brick);
    }

    public int pieceOf(int piece, int what) {
        long set = hanging.pieceNumbered(piece);
        if (set == 0) {
            return refuse(NOBODY);
        }
        switch (what) {
            case 0:
                return hanging.weight(set);
            case 1:
                return hanging.floats(set) ? 1 : 0;
            case 2:
                return hanging.stands(set) ? 1 : 0;
            case 3:
                return Long.bitCount(set);
            default:
                return refuse(OTHER);
        }
    }

    public int key(int brick) {
        int refusal = refusalOf(brick);
        if (refusal != 0) {
            return refuse(refusal);
        }
        return hanging.isKey(brick, hanging.pieceWith(brick, bricks.there())) ? 1 : 0;
    }

    public int weak(int brick) {
        int refusal = refusalOf(brick);
        if (refusal != 0) {
            return refuse(refusal);
        }
        return hanging.countWeak(brick, hanging.pieceWith(brick, bricks.there()));
    }

    public int sound() {
        return hanging.isSound() ? 1 : 0;
    }

    public int grip(int v) {
        if (v < 1) {
            return refuse(BELOW);
        }
        if (v > MOST_GRIP) {
            return refuse(ROOM);
        }
        forgetAnswers();
        return hanging.changeGrip(v);
    }

    public int fit(int what) {
        if (what < 0 || what > 2) {
            return refuse(OTHER);
        }
        int n = 0;
        for (int z = 0; z < HEIGHT; z++) {
            for (int y = 0; y < SIDE; y++) {
                for (int x = 0; x < SIDE; x++) {
                    if (fault(x, y, z) == what) {
                        n++;
                    }
                }
            }
        }
        return n;
    }

    public int seams(boolean over) {
        return bricks.countSeams(over);
    }

    public int cover(int colour, int z) {
        int refusal = refusalOfCover(colour, z);
        return refusal != 0 ? refuse(refusal) : covers.length();
    }

    public int coverSeams(int colour, int z) {
        int refusal = refusalOfCover(colour, z);
        return refusal != 0 ? refuse(refusal) : covers.newSeams();
    }

    public int coverAt(int colour, int z, int i) {
        int refusal = refusalOfCover(colour, z);
        return refusal != 0 ? refuse(refusal) : covers.toldAt(i);
    }

    public int lay(int colour, int z) {
        int refusal = refusalOfCover(colour, z);
        if (refusal != 0) {
            return refuse(refusal);
        }
        int n = covers.length();
        if (bricks.ever() + n > MOST_BRICKS) {
            return refuse(ROOM);
        }
        for (int i = 0; i < n; i++) {
            int told = covers.toldAt(i);
            bricks.add(told % 10, told / 10 % 10, told / 100 % 10, told / 1000, z, colour);
        }
        forgetAnswers();
        return n;
    }

    public int box(int kind, int n) {
        if (!isKind(kind)) {
            return refuse(NOBODY);
        }
        if (n < 0) {
            return refuse(BELOW);
        }
        if (n > MOST_IN_BOX) {
            return refuse(ROOM);
        }
        return box.fill(kind, n);
    }

    public int lacking() {
        box.settle();
        int n = 0;
        for (int kind = 0; kind < KINDS; kind++) {
            n += box.shortOf(kind);
        }
        return n;
    }

    public int lacks(int kind) {
        if (!isKind(kind)) {
            return refuse(NOBODY);
        }
        box.settle();
        return box.shortOf(kind);
    }

    public int order(int k) {
        if (bricks.howMany() > Orders.MOST) {
            return refuse(ROOM);
        }
        orders.findRow();
        return orders.brickAtStep(k);
    }

    public int seen(int side, int u, int v) {
        if (side < 0 || side > FROM_ABOVE) {
            return refuse(OTHER);
        }
        int tall = side == FROM_ABOVE ? SIDE : HEIGHT;
        if (u < 0 || u >= SIDE || v < 0 || v >= tall) {
            return refuse(NOBODY);
        }
        return bricks.colourSeen(side, u, v);
    }

    public int brickOf(int brick, int what) {
        if (!bricks.exists(brick)) {
            return refuse(NOBODY);
        }
        if (what < 0 || what > 6) {
            return refuse(OTHER);
        }
        return bricks.told(brick, what);
    }

    public int count(int what) {
        if (what >= 11 && what <= 16) {
            return refusals[what - 10];
        }
        switch (what) {
            case 0:
                return body.countCells();
            case 1:
                return bricks.howMany();
            case 2:
                return bricks.ever();
            case 3:
                return hanging.countKeys();
            case 4:
                return hanging.countFloating();
            case 5:
                return hanging.currentGrip();
            default:
                return NONE;
        }
    }

    private int refuse(int refusal) {
        int i = -refusal;
        if (i >= 0 && i < refusals.length) {
            refusals[i]++;
        }
        return refusal;
    }

    /** COVERS and ORDERS are kept from call to call, as they are dear to find. */
    private void forgetAnswers() {
        covers.forget();
        orders.forget();
    }

    private int refusalOf(int brick) {
        if (!bricks.exists(brick)) {
            return NOBODY;
        }
        return bricks.isThere(brick) ? 0 : STATE;
    }

    private int refusalOfCover(int colour, int z) {
        if (!isBrickColour(colour) || z < 0 || z >= HEIGHT) {
            return NOBODY;
        }
        return covers.findBest(colour, z) ? 0 : ROOM;
    }

    /** What of FIT a place is: MISSING 0, WRONG 1, BEYOND 2, or -1 if nothing is amiss there. */
    private int fault(int x, int y, int z) {
        int wished = body.colourAt(x, y, z);
        int brick = bricks.brickAt(x, y, z);
        if (brick == NO_BRICK) {
            return wished == 0 ? -1 : 0;
        }
        if (wished == 0) {
            return 2;
        }
        return bricks.colourOf(brick) == wished || body.isInner(x, y, z) ? -1 : 1;
    }

    private static boolean isPlace(int x, int y, int z) {
        return x >= 0 && x < SIDE && y >= 0 && y < SIDE && z >= 0 && z < HEIGHT;
    }

    private static boolean isKind(int kind) {
        return kind >= 0 && kind < KINDS;
    }

    private static boolean isBrickColour(int colour) {
        return colour >= 1 && colour <= COLOURS;
    }

    private static int indexOf(int x, int y, int z) {
        return (z * SIDE + y) * SIDE + x;
    }

    /** The number of the least BRICK of a set that is not empty. */
    private static int least(long set) {
        return Long.bitCount((set & -set) - 1);
    }

    /** THE BODY: the COLOUR that is wished at each place. */
    private static final class Body {
        private final int[] colours = new int[CELLS];

        int paint(int x, int y, int z, int colour) {
            if (!isPlace(x, y, z)) {
                return 0;
            }
            int i = indexOf(x, y, z);
            int old = colours[i];
            colours[i] = colour;
            return old;
        }

        /** 0 beyond the edges, too: what lies there is no CELL of the body. */
        int colourAt(int x, int y, int z) {
            return isPlace(x, y, z) ? colours[indexOf(x, y, z)] : 0;
        }

        boolean isInner(int x, int y, int z) {
            return colourAt(x, y, z) != 0
                    && colourAt(x - 1, y, z) != 0 && colourAt(x + 1, y, z) != 0
                    && colourAt(x, y - 1, z) != 0 && colourAt(x, y + 1, z) != 0
                    && colourAt(x, y, z - 1) != 0 && colourAt(x, y, z + 1) != 0;
        }

        int countCells() {
            int n = 0;
            for (int i = 0; i < CELLS; i++) {
                if (colours[i] != 0) {
                    n++;
                }
            }
            return n;
        }

        int countInner() {
            int n = 0;
            for (int z = 1; z < HEIGHT - 1; z++) {
                for (int y = 1; y < SIDE - 1; y++) {
                    for (int x = 1; x < SIDE - 1; x++) {
                        if (isInner(x, y, z)) {
                            n++;
                        }
                    }
                }
            }
            return n;
        }
    }

    /**
     * All BRICKS that were ever placed. Sets of BRICKS are bits of a long (40 at most), and so are
     * the x, y that a BRICK covers (36): what two of them share is then one step.
     */
    private static final class Bricks {
        private static final int[] LENGTHS = {1, 2, 3, 4, 2, 3, 4};
        private static final int[] WIDTHS = {1, 1, 1, 1, 2, 2, 2};

        private final int[] kinds = new int[MOST_BRICKS];
        private final int[] turns = new int[MOST_BRICKS];
        private final int[] xs = new int[MOST_BRICKS];
        private final int[] ys = new int[MOST_BRICKS];
        private final int[] zs = new int[MOST_BRICKS];
        private final int[] colours = new int[MOST_BRICKS];
        private final long[] footprints = new long[MOST_BRICKS];
        private final long[] neighbours = new long[MOST_BRICKS];
        private final long[] taken = new long[HEIGHT];
        private final int[] numbers = new int[CELLS];
        private int ever;
        private long there;
        private long ground;

        static int alongX(int kind, int turn) {
            if (!isKind(kind)) {
                return 0;
            }
            return turn == 0 ? LENGTHS[kind] : WIDTHS[kind];
        }

        static int alongY(int kind, int turn) {
            return alongX(kind, 1 - turn);
        }

        static long footprint(int kind, int turn, int x, int y) {
            long row = (1L << alongX(kind, turn)) - 1;
            int deep = alongY(kind, turn);
            long spots = 0;
            for (int i = 0; i < deep; i++) {
                spots |= row << ((y + i) * SIDE + x);
            }
            return spots;
        }

        int ever() {
            return ever;
        }

        long there() {
            return there;
        }

        long ground() {
            return ground;
        }

        int howMany() {
            return Long.bitCount(there);
        }

        boolean exists(int brick) {
            return brick >= 0 && brick < ever;
        }

        boolean isThere(int brick) {
            return exists(brick) && (there >>> brick & 1) == 1;
        }

        boolean overlapsAny(long spots, int z) {
            return z >= 0 && z < HEIGHT && (taken[z] & spots) != 0;
        }

        int add(int kind, int turn, int x, int y, int z, int colour) {
            int brick = ever;
            if (brick >= MOST_BRICKS || !isPlace(x, y, z)) {
                return NO_BRICK;
            }
            kinds[brick] = kind;
            turns[brick] = turn;
            xs[brick] = x;
            ys[brick] = y;
            zs[brick] = z;
            colours[brick] = colour;
            footprints[brick] = footprint(kind, turn, x, y);
            ever++;
            there |= 1L << brick;
            if (z == 0) {
                ground |= 1L << brick;
            }
            taken[z] |= footprints[brick];
            writeNumbers(brick, brick + 1);
            join(brick);
            return brick;
        }

        void remove(int brick) {
            if (!isThere(brick)) {
                return;
            }
            there &= ~(1L << brick);
            ground &= there;
            taken[zs[brick]] &= ~footprints[brick];
            writeNumbers(brick, 0);
        }

        private void writeNumbers(int brick, int number) {
            int wide = alongX(kinds[brick], turns[brick]);
            int deep = alongY(kinds[brick], turns[brick]);
            for (int i = 0; i < deep; i++) {
                for (int j = 0; j < wide; j++) {
                    int cell = indexOf(xs[brick] + j, ys[brick] + i, zs[brick]);
                    if (cell >= 0 && cell < CELLS) {
                        numbers[cell] = number;
                    }
                }
            }
        }

        /** GONE BRICKS stay in these rows: whoever reads them looks among those that are there. */
        private void join(int brick) {
            for (int other = 0; other < brick; other++) {
                if (sharedStuds(brick, other) > 0) {
                    neighbours[brick] |= 1L << other;
                    neighbours[other] |= 1L << brick;
                }
            }
        }

        int sharedStuds(int a, int b) {
            if (!exists(a) || !exists(b) || Math.abs(zs[a] - zs[b]) != 1) {
                return 0;
            }
            return Long.bitCount(footprints[a] & footprints[b]);
        }

        long neighboursOf(int brick) {
            return exists(brick) ? neighbours[brick] : 0;
        }

        int sizeOf(int brick) {
            return exists(brick) ? Long.bitCount(footprints[brick]) : 0;
        }

        int colourOf(int brick) {
            return exists(brick) ? colours[brick] : 0;
        }

        /** All BRICKS of a set in higher LAYERS that cover an x, y of this one. */
        long coveringFromAbove(int brick, long among) {
            long above = 0;
            for (int other = 0; other < ever; other++) {
                if (exists(brick) && (among >>> other & 1) == 1 && zs[other] > zs[brick]
                        && (footprints[other] & footprints[brick]) != 0) {
                    above |= 1L << other;
                }
            }
            return above;
        }

        int told(int brick, int what) {
            if (!exists(brick)) {
                return 0;
            }
            switch (what) {
                case 0:
                    return kinds[brick];
                case 1:
                    return turns[brick];
                case 2:
                    return xs[brick];
                case 3:
                    return ys[brick];
                case 4:
                    return zs[brick];
                case 5:
                    return colours[brick];
                default:
                    return isThere(brick) ? 0 : 1;
            }
        }

        int brickAt(int x, int y, int z) {
            return isPlace(x, y, z) ? numbers[indexOf(x, y, z)] - 1 : NO_BRICK;
        }

        boolean isSeamRight(int x, int y, int z) {
            return areTwo(brickAt(x, y, z), brickAt(x + 1, y, z));
        }

        boolean isSeamBehind(int x, int y, int z) {
            return areTwo(brickAt(x, y, z), brickAt(x, y + 1, z));
        }

        private static boolean areTwo(int a, int b) {
            return a != NO_BRICK && b != NO_BRICK && a != b;
        }

        int countSeams(boolean over) {
            int n = 0;
            for (int z = over ? 1 : 0; z < HEIGHT; z++) {
                for (int y = 0; y < SIDE; y++) {
                    for (int x = 0; x < SIDE; x++) {
                        if (isSeamRight(x, y, z) && (!over || isSeamRight(x, y, z - 1))) {
                            n++;
                        }
                        if (isSeamBehind(x, y, z) && (!over || isSeamBehind(x, y, z - 1))) {
                            n++;
                        }
                    }
                }
            }
            return n;
        }

        int colourSeen(int side, int u, int v) {
            int steps = side == FROM_ABOVE ? HEIGHT : SIDE;
            for (int step = 0; step < steps; step++) {
                int brick = onLine(side, u, v, step);
                if (brick != NO_BRICK) {
                    return colourOf(brick);
                }
            }
            return 0;
        }

        private int onLine(int side, int u, int v, int step) {
            switch (side) {
                case 0:
                    return brickAt(u, step, v);
                case 1:
                    return brickAt(SIDE - 1 - step, u, v);
                case 2:
                    return brickAt(u, SIDE - 1 - step, v);
                case 3:
                    return brickAt(step, u, v);
                default:
                    return brickAt(u, v, HEIGHT - 1 - step);
            }
        }
    }

    /** What HANGS TOGETHER, STANDS and HOLDS, among all BRICKS or those that are put so far. */
    private static final class Hanging {
        private final Bricks bricks;
        private final int[] lefts = new int[SIDE + 1];
        private final int[] rights = new int[SIDE + 1];
        private int grip = 8;

        Hanging(Bricks bricks) {
            this.bricks = bricks;
        }

        int currentGrip() {
            return grip;
        }

        int changeGrip(int v) {
            int old = grip;
            grip = v;
            return old;
        }

        /** All of a set that HANG TOGETHER with the BRICK that it starts from; none from none. */
        private long reach(long start, long among) {
            long reached = start;
            long open = start;
            for (int i = 0; i < MOST_BRICKS && open != 0; i++) {
                long fresh = bricks.neighboursOf(least(open)) & among & ~reached;
                open = open & (open - 1) | fresh;
                reached |= fresh;
            }
            return reached;
        }

        long pieceWith(int brick, long among) {
            return reach(1L << brick & among, among);
        }

        int countPieces() {
            long left = bricks.there();
            int n = 0;
            for (int i = 0; i < MOST_BRICKS && left != 0; i++) {
                left &= ~reach(left & -left, left);
                n++;
            }
            return n;
        }

        int countFloating() {
            long left = bricks.there();
            int n = 0;
            for (int i = 0; i < MOST_BRICKS && left != 0; i++) {
                long piece = reach(left & -left, left);
                left &= ~piece;
                if (floats(piece)) {
                    n++;
                }
            }
            return n;
        }

        int countKeys() {
            int n = 0;
            for (int brick = 0; brick < bricks.ever(); brick++) {
                if (bricks.isThere(brick) && isKey(brick, pieceWith(brick, bricks.there()))) {
                    n++;
                }
            }
            return n;
        }

        /** 0 if there is no PIECE of that number. */
        long pieceNumbered(int number) {
            if (number < 0 || number >= MOST_BRICKS) {
                return 0;
            }
            long left = bricks.there();
            for (int i = 0; i < number && left != 0; i++) {
                left &= ~reach(left & -left, left);
            }
            return reach(left & -left, left);
        }

        int numberOfPiece(int brick) {
            long left = bricks.there();
            int number = 0;
            for (int i = 0; i < MOST_BRICKS && left != 0; i++) {
                long piece = reach(left & -left, left);
                if ((piece >>> brick & 1) == 1) {
                    return number;
                }
                left &= ~piece;
                number++;
            }
            return number;
        }

        int weight(long set) {
            int n = 0;
            long left = set;
            for (int i = 0; i < MOST_BRICKS && left != 0; i++) {
                n += bricks.sizeOf(least(left));
                left &= left - 1;
            }
            return n;
        }

        boolean floats(long piece) {
            return (piece & bricks.ground()) == 0;
        }

        /**
         * All is measured in parts, twice the number of CELLS to a CELL's side, so that the middle
         * is a whole number of them.
         */
        boolean stands(long piece) {
            if (floats(piece)) {
                return false;
            }
            int parts = 2 * weight(piece);
            int middleX = 0;
            int middleY = 0;
            clearEdges();
            for (int brick = 0; brick < bricks.ever(); brick++) {
                if ((piece >>> brick & 1) == 1) {
                    int size = bricks.sizeOf(brick);
                    int fromX = bricks.told(brick, 2);
                    int fromY = bricks.told(brick, 3);
                    int toX = fromX + Bricks.alongX(bricks.told(brick, 0), bricks.told(brick, 1));
                    int toY = fromY + Bricks.alongY(bricks.told(brick, 0), bricks.told(brick, 1));
                    // the sum of 2 x and 1 over CELLS from fromX to toX, row by row
                    middleX += size * (fromX + toX);
                    middleY += size * (fromY + toY);
                    if ((bricks.ground() >>> brick & 1) == 1) {
                        widenEdge(fromY, fromX, toX);
                        widenEdge(toY, fromX, toX);
                    }
                }
            }
            return isWithinEdges(middleX, middleY, parts);
        }

        private void clearEdges() {
            Arrays.fill(lefts, SIDE + 1);
            Arrays.fill(rights, -1);
        }

        private void widenEdge(int y, int left, int right) {
            if (y >= 0 && y <= SIDE) {
                lefts[y] = Math.min(lefts[y], left);
                rights[y] = Math.max(rights[y], right);
            }
        }

        /**
         * Of the corners at each y only the outermost matter. A middle is above their hull if some
         * line between two left ones passes at its left, and some between two right ones at its
         * right.
         */
        private boolean isWithinEdges(int x, int y, int parts) {
            boolean beyondLeft = false;
            boolean beyondRight = false;
            for (int low = 0; low <= SIDE; low++) {
                for (int high = low; high <= SIDE; high++) {
                    boolean spans = low * parts <= y && y <= high * parts;
                    if (spans && rights[low] >= 0 && rights[high] >= 0) {
                        int rise = Math.max(1, high - low);
                        int above = y - low * parts;
                        int fromLeft = x * rise - lineAt(lefts[low], lefts[high], rise * parts, above);
                        int fromRight = x * rise - lineAt(rights[low], rights[high], rise * parts, above);
                        beyondLeft = beyondLeft || fromLeft >= 0;
                        beyondRight = beyondRight || fromRight <= 0;
                    }
                }
            }
            return beyondLeft && beyondRight;
        }

        /** Where a line from one corner to another is at a height above the first, times its rise. */
        private static int lineAt(int fromX, int toX, int riseInParts, int above) {
            return fromX * riseInParts + (toX - fromX) * above;
        }

        boolean isKey(int brick, long piece) {
            long rest = piece & ~(1L << brick);
            return reach(rest & -rest, rest) != rest;
        }

        /** How many of the parts of a PIECE that HANG BY a BRICK of it don't HOLD. */
        int countWeak(int brick, long piece) {
            // one that shares STUDS with a single other is no KEY, which saves most of the work
            if (floats(piece) || Long.bitCount(bricks.neighboursOf(brick) & piece) < 2) {
                return 0;
            }
            long left = piece & ~(1L << brick);
            if (reach(left & -left, left) == left) {
                return 0;
            }
            int n = 0;
            for (int i = 0; i < MOST_BRICKS && left != 0; i++) {
                long part = reach(left & -left, left);
                left &= ~part;
                if (floats(part) && weight(part) > grip * studsBetween(brick, part)) {
                    n++;
                }
            }
            return n;
        }

        private int studsBetween(int brick, long part) {
            int n = 0;
            for (int other = 0; other < bricks.ever(); other++) {
                if ((part >>> other & 1) == 1) {
                    n += bricks.sharedStuds(brick, other);
                }
            }
            return n;
        }

        boolean isSound() {
            long left = bricks.there();
            for (int i = 0; i < MOST_BRICKS && left != 0; i++) {
                long piece = reach(left & -left, left);
                left &= ~piece;
                if (!isSoundPiece(piece)) {
                    return false;
                }
            }
            return true;
        }

        boolean isSoundPiece(long piece) {
            if (!stands(piece)) {
                return false;
            }
            for (int brick = 0; brick < bricks.ever(); brick++) {
                if ((piece >>> brick & 1) == 1 && countWeak(brick, piece) > 0) {
                    return false;
                }
            }
            return true;
        }
    }

    /** The BEST COVER of one COLOUR and LAYER, kept until something changes. */
    private static final class Covers {
        private static final int MOST = 16;
        private static final int SHAPES = 12;
        /** In the order in which they are tried; of squares TURN 0 is enough. */
        private static final int[] SHAPE_KINDS = {6, 6, 5, 5, 4, 3, 3, 2, 2, 1, 1, 0};
        private static final int[] SHAPE_TURNS = {0, 1, 0, 1, 0, 0, 1, 0, 1, 0, 1, 0};
        /** Above all that SEAMS can spare: 16 CELLS lie beside one another 24 times, at 2 each. */
        private static final int BRICK_COST = 100;
        private static final int WORST = 1000000;
        /** No 16 CELLS were found that come to more than 607 ways of being covered in part. */
        private static final int SLOTS = 2048;

        private final Body body;
        private final Bricks bricks;
        private final int[] spots = new int[MOST];
        private final int[] numberOfSpot = new int[SPOTS];
        private final int[] rightWeights = new int[SPOTS];
        private final int[] behindWeights = new int[SPOTS];
        private final int[] fits = new int[MOST * SHAPES];
        private final int[] spares = new int[MOST * SHAPES];
        private final int[] keys = new int[SLOTS];
        private final int[] costs = new int[SLOTS];
        private final int[] told = new int[MOST];
        private int cells;
        private int length;
        private int newSeams;
        private int colour;
        private int layer;

        Covers(Body body, Bricks bricks) {
            this.body = body;
            this.bricks = bricks;
        }

        void forget() {
            colour = 0;
        }

        int length() {
            return length;
        }

        int newSeams() {
            return newSeams;
        }

        int toldAt(int i) {
            return i >= 0 && i < length ? told[i] : NONE;
        }

        /** Whether there are few enough CELLS. */
        boolean findBest(int newColour, int newLayer) {
            if (newColour != colour || newLayer != layer) {
                colour = newColour;
                layer = newLayer;
                length = 0;
                newSeams = 0;
                collectCells();
                if (cells <= MOST) {
                    weighPairs();
                    findFits();
                    Arrays.fill(keys, 0);
                    tell();
                }
            }
            return cells <= MOST;
        }

        private void collectCells() {
            cells = 0;
            for (int spot = 0; spot < SPOTS; spot++) {
                int x = spot % SIDE;
                int y = spot / SIDE;
                numberOfSpot[spot] = -1;
                if (body.colourAt(x, y, layer) == colour && bricks.brickAt(x, y, layer) == NO_BRICK) {
                    numberOfSpot[spot] = cells;
                    if (cells < MOST) {
                        spots[cells] = spot;
                    }
                    cells++;
                }
            }
        }

        /** How many SEAMS over SEAMS a SEAM makes: it may lie over one and under one. */
        private void weighPairs() {
            for (int spot = 0; spot < SPOTS; spot++) {
                int x = spot % SIDE;
                int y = spot / SIDE;
                rightWeights[spot] = (bricks.isSeamRight(x, y, layer - 1) ? 1 : 0)
                        + (bricks.isSeamRight(x, y, layer + 1) ? 1 : 0);
                behindWeights[spot] = (bricks.isSeamBehind(x, y, layer - 1) ? 1 : 0)
                        + (bricks.isSeamBehind(x, y, layer + 1) ? 1 : 0);
            }
        }

        private void findFits() {
            for (int cell = 0; cell < cells && cell < MOST; cell++) {
                for (int shape = 0; shape < SHAPES; shape++) {
                    findFit(cell, shape);
                }
            }
        }

        private void findFit(int cell, int shape) {
            int wide = Bricks.alongX(SHAPE_KINDS[shape], SHAPE_TURNS[shape]);
            int deep = Bricks.alongY(SHAPE_KINDS[shape], SHAPE_TURNS[shape]);
            int way = cell * SHAPES + shape;
            fits[way] = 0;
            int covered = 0;
            int spared = 0;
            for (int i = 0; i < deep; i++) {
                for (int j = 0; j < wide; j++) {
                    int number = numberAt(spots[cell] % SIDE + j, spots[cell] / SIDE + i);
                    if (number < 0) {
                        return;
                    }
                    covered |= 1 << number;
                    spared += j + 1 < wide ? rightWeights[spots[number]] : 0;
                    spared += i + 1 < deep ? behindWeights[spots[number]] : 0;
                }
            }
            fits[way] = covered;
            spares[way] = spared;
        }

        /** The number of a CELL to be covered; -1 if there is none. */
        private int numberAt(int x, int y) {
            if (x >= SIDE || y >= SIDE) {
                return -1;
            }
            int number = numberOfSpot[y * SIDE + x];
            return number < MOST ? number : -1;
        }

        private void tell() {
            int covered = 0;
            int spared = 0;
            for (int i = 0; i < MOST && covered != (1 << cells) - 1; i++) {
                int way = bestWay(covered);
                if (way < 0) {
                    return;
                }
                int spot = spots[way / SHAPES];
                told[i] = SHAPE_KINDS[way % SHAPES] + 10 * SHAPE_TURNS[way % SHAPES]
                        + 100 * (spot % SIDE) + 1000 * (spot / SIDE);
                covered |= fits[way];
                spared += spares[way];
                length++;
            }
            newSeams = seamsOfSingles() - spared;
        }

        /** The first way to cover the first free CELL with which BEST goes on. */
        private int bestWay(int covered) {
            int cell = firstFree(covered);
            int cost = cheapest(covered, 0);
            for (int shape = 0; shape < SHAPES && cell < MOST; shape++) {
                int way = cell * SHAPES + shape;
                if (isFree(way, covered)
                        && BRICK_COST - spares[way] + cheapest(covered | fits[way], 1) == cost) {
                    return way;
                }
            }
            return -1;
        }

        private int firstFree(int covered) {
            return Integer.bitCount(covered & ~(covered + 1));
        }

        private boolean isFree(int way, int covered) {
            return fits[way] != 0 && (fits[way] & covered) == 0;
        }

        /**
         * The least cost of covering what is not covered yet. BRICKS spare the SEAMS within them,
         * so what one spares doesn't hang on how the others lie, and each rest is weighed once.
         */
        private int cheapest(int covered, int depth) {
            int cell = firstFree(covered);
            if (cell >= cells) {
                return 0;
            }
            if (depth >= MOST || cell >= MOST) {
                return WORST;
            }
            int slot = slotOf(covered);
            if (slot >= 0 && keys[slot] != 0) {
                return costs[slot];
            }
            int least = WORST;
            for (int shape = 0; shape < SHAPES; shape++) {
                int way = cell * SHAPES + shape;
                if (isFree(way, covered)) {
                    int rest = cheapest(covered | fits[way], depth + 1);
                    least = Math.min(least, BRICK_COST - spares[way] + rest);
                }
            }
            keep(covered, least);
            return least;
        }

        /** Where a cost is kept, or the free slot for it; -1 if there is no room for it. */
        private int slotOf(int covered) {
            int start = covered * 0x9E3779B1 >>> 21;
            for (int i = 0; i < SLOTS; i++) {
                int slot = (start + i) & (SLOTS - 1);
                if (keys[slot] == 0 || keys[slot] == covered + 1) {
                    return slot;
                }
            }
            return -1;
        }

        private void keep(int covered, int cost) {
            int slot = slotOf(covered);
            if (slot >= 0) {
                keys[slot] = covered + 1;
                costs[slot] = cost;
            }
        }

        /** New SEAMS over SEAMS if each CELL had a BRICK of its own. */
        private int seamsOfSingles() {
            int n = 0;
            for (int spot = 0; spot < SPOTS; spot++) {
                int x = spot % SIDE;
                int y = spot / SIDE;
                if (isNewPair(x, y, x + 1, y)) {
                    n += rightWeights[spot];
                }
                if (isNewPair(x, y, x, y + 1)) {
                    n += behindWeights[spot];
                }
            }
            return n;
        }

        private boolean isNewPair(int x, int y, int nextX, int nextY) {
            boolean isNew = numberAt(x, y) >= 0;
            boolean isNextNew = numberAt(nextX, nextY) >= 0;
            return (isNew || isNextNew)
                    && (isNew || bricks.brickAt(x, y, layer) != NO_BRICK)
                    && (isNextNew || bricks.brickAt(nextX, nextY, layer) != NO_BRICK);
        }
    }

    /** The ORDER of building, kept until something changes. */
    private static final class Orders {
        static final int MOST = 12;
        private static final int SETS = 4096;

        private final Bricks bricks;
        private final Hanging hanging;
        private final int[] numbers = new int[MOST];
        private final long[] above = new long[MOST];
        private final int[] row = new int[MOST];
        private final boolean[] dead = new boolean[SETS];
        private int size;
        private int length;
        private boolean isKnown;

        Orders(Bricks bricks, Hanging hanging) {
            this.bricks = bricks;
            this.hanging = hanging;
        }

        void forget() {
            isKnown = false;
        }

        int brickAtStep(int k) {
            return k >= 0 && k < length ? row[k] : NONE;
        }

        void findRow() {
            if (isKnown) {
                return;
            }
            isKnown = true;
            length = 0;
            // no row ends well if the whole is not SOUND
            if (!hanging.isSound()) {
                return;
            }
            collectBricks();
            for (int set = 0; set < SETS && set < 1 << size; set++) {
                dead[set] = false;
            }
            if (goesOn(0, 0, 0)) {
                length = size;
            }
        }

        private void collectBricks() {
            size = 0;
            for (int brick = 0; brick < bricks.ever(); brick++) {
                if (bricks.isThere(brick) && size < MOST) {
                    numbers[size] = brick;
                    above[size] = bricks.coveringFromAbove(brick, bricks.there());
                    size++;
                }
            }
        }

        /**
         * Whether the BRICKS that are put so far can be followed by all others. A set from which
         * it can't go on is dead whatever the row was, and is tried once.
         */
        private boolean goesOn(int set, long put, int step) {
            if (step >= size || step >= MOST) {
                return true;
            }
            for (int i = 0; i < size; i++) {
                int next = set | 1 << i;
                if (next == set || next >= SETS || dead[next] || (above[i] & put) != 0) {
                    continue;
                }
                long all = put | 1L << numbers[i];
                row[step] = numbers[i];
                // only the PIECE of the new BRICK can have become unsound
                if (hanging.isSoundPiece(hanging.pieceWith(numbers[i], all))
                        && goesOn(next, all, step + 1)) {
                    return true;
                }
                dead[next] = true;
            }
            return false;
        }
    }

    /** THE BOX, and what may be taken INSTEAD. */
    private static final class Box {
        private static final int[] FIRST_PARTS = {0, 0, 0, 1, 1, 2, 4};
        private static final int[] SECOND_PARTS = {0, 0, 1, 1, 1, 2, 4};

        private final Bricks bricks;
        private final int[] stock = new int[KINDS];
        private final int[] left = new int[KINDS];
        private final int[] missing = new int[KINDS];

        Box(Bricks bricks) {
            this.bricks = bricks;
        }

        int fill(int kind, int n) {
            if (!isKind(kind)) {
                return 0;
            }
            int old = stock[kind];
            stock[kind] = n;
            return old;
        }

        int shortOf(int kind) {
            return isKind(kind) ? missing[kind] : 0;
        }

        void settle() {
            weighNeeds();
            for (int kind = KINDS - 1; kind > 0; kind--) {
                int most = missing[kind];
                for (int i = 0; i < most; i++) {
                    if (takeTwo(FIRST_PARTS[kind], SECOND_PARTS[kind])) {
                        missing[kind]--;
                    }
                }
            }
        }

        private void weighNeeds() {
            for (int kind = 0; kind < KINDS; kind++) {
                left[kind] = stock[kind];
                missing[kind] = 0;
            }
            for (int brick = 0; brick < bricks.ever(); brick++) {
                int kind = bricks.told(brick, 0);
                if (bricks.isThere(brick) && isKind(kind)) {
                    if (left[kind] > 0) {
                        left[kind]--;
                    } else {
                        missing[kind]++;
                    }
                }
            }
        }

        private boolean takeTwo(int first, int second) {
            int wanted = first == second ? 2 : 1;
            if (!isKind(first) || !isKind(second) || left[first] < wanted || left[second] < wanted) {
                return false;
            }
            left[first]--;
            left[second]--;
            return true;
        }
    }
}
