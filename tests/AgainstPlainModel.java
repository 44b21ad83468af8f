import java.util.ArrayList;
import java.util.Arrays;
import java.util.Collections;
import java.util.HashMap;
import java.util.HashSet;
import java.util.List;
import java.util.Map;
import java.util.Random;
import java.util.Set;

/**
 * Long made-up runs, each answered by BrickModels and by a slow model that does what the document
 * says word by word: it tries all covers, draws the hull, takes each brick away to see if it is a
 * key. No object gets more than 512 calls.
 */
public final class AgainstPlainModel {
    private static final int CALLS = 512;
    private static int wrong = 0;

    public static void main(String[] args) {
        for (int seed = 0; seed < 900 && wrong <= 20; seed++) {
            new Run(seed).go();
        }
        for (int seed = 0; seed < 900 && wrong <= 20; seed++) {
            new Run(seed).coverMuch();
        }
        for (int seed = 0; seed < 900 && wrong <= 20; seed++) {
            new Run(seed).buildMuch();
        }
        System.out.println(wrong == 0 ? "all answers are as due" : wrong + " answers are not as due");
        if (wrong != 0) {
            System.exit(1);
        }
    }

    /** One made-up run; its seed also chooses what it is mostly about. */
    private static final class Run {
        final int seed;
        final Random random;
        final BrickModels real = new BrickModels();
        final Plain plain = new Plain();
        final StringBuilder history = new StringBuilder();
        final int style;
        int calls = 0;
        boolean failed = false;

        Run(int seed) {
            this.seed = seed;
            this.random = new Random(seed * 7919L + 13);
            this.style = seed % 6;
        }

        void go() {
            while (calls < CALLS && !failed) {
                int dice = random.nextInt(100);
                if (dice < 22) {
                    change();
                } else {
                    ask();
                }
            }
        }

        /** Up to 17 CELLS between LAYERS of many SEAMS, some of them covered already. */
        void coverMuch() {
            int z = upTo(4);
            for (int i = 0; i < 30; i++) {
                put(upTo(6), upTo(1), upTo(5), upTo(5), z + 1 - 2 * upTo(1), 1);
            }
            for (int i = upTo(3); i > 0; i--) {
                put(upTo(2), upTo(1), upTo(5), upTo(5), z, 2);
            }
            int wide = 3 + upTo(3);
            int most = 10 + upTo(7);
            for (int i = 0; i < 60 && most > 0 && !failed; i++) {
                int x = random.nextInt(wide);
                int y = random.nextInt(wide == 6 ? 4 : 6);
                if (plain.cellOf(x, y, z) == 0) {
                    due(call("cell", x, y, z, 3), real.cell(x, y, z, 3), plain.cell(x, y, z, 3));
                    most--;
                }
            }
            due(call("cover", 3, z), real.cover(3, z), plain.cover(3, z));
            due(call("coverSeams", 3, z), real.coverSeams(3, z), plain.coverSeams(3, z));
            for (int i = 0; i < 17 && !failed; i++) {
                due(call("coverAt", 3, z, i), real.coverAt(3, z, i), plain.coverAt(3, z, i));
            }
            due("seams(true)", real.seams(true), plain.seams(true));
            due(call("lay", 3, z), real.lay(3, z), plain.lay(3, z));
            due("seams(true)", real.seams(true), plain.seams(true));
        }

        /** Up to 12 BRICKS dropped on one another close together, numbered in any order. */
        void buildMuch() {
            int grip = 1 + upTo(8);
            due(call("grip", grip), real.grip(grip), plain.grip(grip));
            List<Plain.Brick> dropped = dropSome(5 + upTo(7));
            Collections.shuffle(dropped, random);
            for (Plain.Brick b : dropped) {
                put(b.kind, b.turn, b.x, b.y, b.z, b.colour);
            }
            askBuilding();
            int another = 1 + upTo(39);
            due(call("grip", another), real.grip(another), plain.grip(another));
            askBuilding();
            int brick = aBrick();
            due(call("take", brick), real.take(brick), plain.take(brick));
            askBuilding();
        }

        /** Now and then one is put a LAYER too high: it may come to hang from what is dropped on it. */
        List<Plain.Brick> dropSome(int most) {
            Plain pile = new Plain();
            int wide = 3 + upTo(2);
            for (int i = 0; i < 60 && pile.bricks.size() < most; i++) {
                Plain.Brick b = new Plain.Brick(upTo(6), upTo(1), random.nextInt(wide), upTo(2), 0, 1 + upTo(4));
                int z = pile.topBelow(b) + (random.nextInt(12) == 0 ? 1 : 0);
                if (z < 5) {
                    pile.place(b.kind, b.turn, b.x, b.y, z, b.colour);
                }
            }
            return new ArrayList<>(pile.bricks);
        }

        void askBuilding() {
            due("sound()", real.sound(), plain.sound());
            due("pieces()", real.pieces(), plain.pieces());
            for (int b = 0; b < plain.bricks.size() && !failed; b++) {
                due(call("key", b), real.key(b), plain.key(b));
                due(call("weak", b), real.weak(b), plain.weak(b));
            }
            List<Integer> row = plain.row();
            for (int k = 0; k < 13 && !failed; k++) {
                due(call("order", k), real.order(k), k < row.size() ? row.get(k) : -9);
            }
        }

        void put(int kind, int turn, int x, int y, int z, int colour) {
            due(call("place", kind, turn, x, y, z, colour),
                    real.place(kind, turn, x, y, z, colour), plain.place(kind, turn, x, y, z, colour));
        }

        int upTo(int most) {
            return random.nextInt(most + 1);
        }

        /** A number of least .. most, now and then one beyond. */
        int about(int least, int most) {
            if (random.nextInt(60) == 0) {
                return random.nextBoolean() ? least - 1 - random.nextInt(3) : most + 1 + random.nextInt(3);
            }
            if (random.nextInt(600) == 0) {
                return random.nextBoolean() ? Integer.MIN_VALUE : Integer.MAX_VALUE;
            }
            return least + random.nextInt(most - least + 1);
        }

        int aBrick() {
            return about(0, Math.max(0, plain.bricks.size() - 1));
        }

        void change() {
            int dice = random.nextInt(100);
            if (style == 0 || style == 3) {
                if (dice < 35) {
                    paintBox();
                    return;
                }
                if (dice < 60) {
                    int colour = about(1, style == 0 ? 1 : 2);
                    int z = about(0, 3);
                    due(call("lay", colour, z), real.lay(colour, z), plain.lay(colour, z));
                    return;
                }
            }
            if (dice < 70) {
                placeSome();
            } else if (dice < 85) {
                int brick = aBrick();
                due(call("take", brick), real.take(brick), plain.take(brick));
            } else if (dice < 90) {
                int v = random.nextBoolean() ? about(1, 3) : about(1, 40);
                due(call("grip", v), real.grip(v), plain.grip(v));
            } else if (dice < 96) {
                int kind = about(0, 6);
                int n = random.nextInt(5) == 0 ? about(0, 99) : about(0, 6);
                due(call("box", kind, n), real.box(kind, n), plain.box(kind, n));
            } else {
                int colour = about(1, 5);
                int z = about(0, 4);
                due(call("lay", colour, z), real.lay(colour, z), plain.lay(colour, z));
            }
        }

        void paintBox() {
            int x = upTo(5);
            int y = upTo(5);
            int z = upTo(style == 0 ? 2 : 4);
            int colour = random.nextInt(8) == 0 ? about(0, 5) : about(1, style == 0 ? 1 : 2);
            int most = 4 + upTo(12);
            int wide = 1 + upTo(3);
            int deep = 1 + upTo(3);
            int high = 1 + upTo(2);
            for (int c = z; c < z + high; c++) {
                for (int b = y; b < y + deep; b++) {
                    for (int a = x; a < x + wide && most > 0 && calls < CALLS && !failed; a++) {
                        most--;
                        due(call("cell", a, b, c, colour), real.cell(a, b, c, colour), plain.cell(a, b, c, colour));
                    }
                }
            }
        }

        void placeSome() {
            int kind = about(0, 6);
            int turn = about(0, 1);
            int x = about(0, 5);
            int y = style == 2 ? about(0, 1) : about(0, 5);
            int z = style == 4 ? about(0, 1) : about(0, 4);
            // mostly on top of or below what is there, so that much hangs together
            if (random.nextInt(4) != 0) {
                int least = lowestFree(x, y);
                if (least >= 0) {
                    z = least;
                }
            }
            put(kind, turn, x, y, z, about(1, 5));
        }

        int lowestFree(int x, int y) {
            if (x < 0 || x > 5 || y < 0 || y > 5) {
                return -1;
            }
            for (int z = 0; z < 5; z++) {
                if (plain.brickAt(x, y, z) < 0) {
                    return z;
                }
            }
            return -1;
        }

        void ask() {
            switch (random.nextInt(22)) {
                case 0: { int x = about(0, 5); int y = about(0, 5); int z = about(0, 4);
                    due(call("cellOf", x, y, z), real.cellOf(x, y, z), plain.cellOf(x, y, z)); break; }
                case 1: due(call("inner"), real.inner(), plain.inner()); break;
                case 2: { int x = about(0, 5); int y = about(0, 5); int z = about(0, 4);
                    due(call("at", x, y, z), real.at(x, y, z), plain.at(x, y, z)); break; }
                case 3: { int a = aBrick(); int b = aBrick();
                    due(call("studs", a, b), real.studs(a, b), plain.studs(a, b)); break; }
                case 4: due(call("pieces"), real.pieces(), plain.pieces()); break;
                case 5: { int a = aBrick(); due(call("piece", a), real.piece(a), plain.piece(a)); break; }
                case 6: { int p = about(0, Math.max(0, plain.pieceList().size() - 1)); int w = about(0, 3);
                    due(call("pieceOf", p, w), real.pieceOf(p, w), plain.pieceOf(p, w)); break; }
                case 7: { int a = aBrick(); due(call("key", a), real.key(a), plain.key(a)); break; }
                case 8: { int a = aBrick(); due(call("weak", a), real.weak(a), plain.weak(a)); break; }
                case 9: due(call("sound"), real.sound(), plain.sound()); break;
                case 10: { int w = about(0, 2); due(call("fit", w), real.fit(w), plain.fit(w)); break; }
                case 11: { boolean over = random.nextBoolean();
                    due("seams(" + over + ")", real.seams(over), plain.seams(over)); break; }
                case 12: { int c = about(1, 2); int z = about(0, 4);
                    due(call("cover", c, z), real.cover(c, z), plain.cover(c, z)); break; }
                case 13: { int c = about(1, 2); int z = about(0, 4);
                    due(call("coverSeams", c, z), real.coverSeams(c, z), plain.coverSeams(c, z)); break; }
                case 14: { int c = about(1, 2); int z = about(0, 4); int i = about(0, 5);
                    due(call("coverAt", c, z, i), real.coverAt(c, z, i), plain.coverAt(c, z, i)); break; }
                case 15: due(call("lacking"), real.lacking(), plain.lacking()); break;
                case 16: { int k = about(0, 6); due(call("lacks", k), real.lacks(k), plain.lacks(k)); break; }
                case 17: case 18: { int k = about(0, 8); due(call("order", k), real.order(k), plain.order(k)); break; }
                case 19: { int s = about(0, 4); int u = about(0, 5); int v = s == 4 ? about(0, 5) : about(0, 4);
                    due(call("seen", s, u, v), real.seen(s, u, v), plain.seen(s, u, v)); break; }
                case 20: { int a = aBrick(); int w = about(0, 6);
                    due(call("brickOf", a, w), real.brickOf(a, w), plain.brickOf(a, w)); break; }
                default: { int w = random.nextBoolean() ? about(0, 5) : about(11, 16);
                    due(call("count", w), real.count(w), plain.count(w)); break; }
            }
        }

        String call(String name, int... args) {
            StringBuilder text = new StringBuilder(name).append('(');
            for (int i = 0; i < args.length; i++) {
                text.append(i == 0 ? "" : ", ").append(args[i]);
            }
            return text.append(')').toString();
        }

        void due(String call, int got, int want) {
            calls++;
            history.append(call).append(" -> ").append(got).append('\n');
            if (got != want) {
                wrong++;
                failed = true;
                System.out.println("seed " + seed + ", call " + calls + ": " + call + " answered " + got + ", due is " + want);
                if (wrong == 1) {
                    System.out.println(history);
                }
            }
        }
    }

    /** The document's words, done without any shortcut. */
    private static final class Plain {
        static final int[] LONG = {1, 2, 3, 4, 2, 3, 4};
        static final int[] WIDE = {1, 1, 1, 1, 2, 2, 2};
        static final int[][] MADE_OF = {null, {0, 0}, {0, 1}, {1, 1}, {1, 1}, {2, 2}, {4, 4}};

        final int[][][] body = new int[6][6][5];
        final List<Brick> bricks = new ArrayList<>();
        final int[] stock = new int[7];
        final int[] refusals = new int[7];
        int grip = 8;

        static final class Brick {
            final int kind, turn, x, y, z, colour;
            boolean gone = false;

            Brick(int kind, int turn, int x, int y, int z, int colour) {
                this.kind = kind;
                this.turn = turn;
                this.x = x;
                this.y = y;
                this.z = z;
                this.colour = colour;
            }

            int endX() {
                return x + (turn == 0 ? LONG[kind] : WIDE[kind]);
            }

            int endY() {
                return y + (turn == 0 ? WIDE[kind] : LONG[kind]);
            }

            boolean covers(int a, int b) {
                return a >= x && a < endX() && b >= y && b < endY();
            }

            int cells() {
                return LONG[kind] * WIDE[kind];
            }
        }

        int refuse(int number) {
            refusals[-number]++;
            return number;
        }

        static boolean isCell(int x, int y, int z) {
            return x >= 0 && x <= 5 && y >= 0 && y <= 5 && z >= 0 && z <= 4;
        }

        int wished(int x, int y, int z) {
            return isCell(x, y, z) ? body[x][y][z] : 0;
        }

        int brickAt(int x, int y, int z) {
            for (int b = 0; b < bricks.size(); b++) {
                Brick it = bricks.get(b);
                if (!it.gone && it.z == z && it.covers(x, y)) {
                    return b;
                }
            }
            return -1;
        }

        /** The LAYER in which a BRICK that is dropped comes to lie. */
        int topBelow(Brick fresh) {
            int top = 0;
            for (Brick it : bricks) {
                boolean meets = it.x < fresh.endX() && fresh.x < it.endX() && it.y < fresh.endY() && fresh.y < it.endY();
                top = meets ? Math.max(top, it.z + 1) : top;
            }
            return top;
        }

        int cell(int x, int y, int z, int v) {
            if (!isCell(x, y, z) || v < 0 || v > 5) {
                return refuse(-1);
            }
            int old = body[x][y][z];
            body[x][y][z] = v;
            return old;
        }

        int cellOf(int x, int y, int z) {
            return isCell(x, y, z) ? body[x][y][z] : refuse(-1);
        }

        boolean isInner(int x, int y, int z) {
            int[][] steps = {{1, 0, 0}, {-1, 0, 0}, {0, 1, 0}, {0, -1, 0}, {0, 0, 1}, {0, 0, -1}, {0, 0, 0}};
            for (int[] s : steps) {
                if (wished(x + s[0], y + s[1], z + s[2]) == 0) {
                    return false;
                }
            }
            return true;
        }

        int inner() {
            int n = 0;
            for (int x = 0; x < 6; x++) {
                for (int y = 0; y < 6; y++) {
                    for (int z = 0; z < 5; z++) {
                        n += isInner(x, y, z) ? 1 : 0;
                    }
                }
            }
            return n;
        }

        int place(int kind, int turn, int x, int y, int z, int colour) {
            if (kind < 0 || kind > 6 || turn < 0 || turn > 1 || colour < 1 || colour > 5 || !isCell(x, y, z)) {
                return refuse(-1);
            }
            Brick fresh = new Brick(kind, turn, x, y, z, colour);
            if (fresh.endX() > 6 || fresh.endY() > 6) {
                return refuse(-6);
            }
            for (int a = x; a < fresh.endX(); a++) {
                for (int b = y; b < fresh.endY(); b++) {
                    if (brickAt(a, b, z) >= 0) {
                        return refuse(-3);
                    }
                }
            }
            if (bricks.size() == 40) {
                return refuse(-6);
            }
            bricks.add(fresh);
            return bricks.size() - 1;
        }

        int check(int brick) {
            if (brick < 0 || brick >= bricks.size()) {
                return -1;
            }
            return bricks.get(brick).gone ? -3 : 0;
        }

        int take(int brick) {
            if (check(brick) != 0) {
                return refuse(check(brick));
            }
            bricks.get(brick).gone = true;
            return 1;
        }

        int at(int x, int y, int z) {
            if (!isCell(x, y, z)) {
                return refuse(-1);
            }
            int b = brickAt(x, y, z);
            return b < 0 ? -9 : b;
        }

        int studsOf(int a, int b) {
            Brick p = bricks.get(a);
            Brick q = bricks.get(b);
            if (p.z != q.z + 1 && q.z != p.z + 1) {
                return 0;
            }
            int n = 0;
            for (int x = 0; x < 6; x++) {
                for (int y = 0; y < 6; y++) {
                    n += p.covers(x, y) && q.covers(x, y) ? 1 : 0;
                }
            }
            return n;
        }

        int studs(int a, int b) {
            if (check(a) == -1 || check(b) == -1 || a == b) {
                return refuse(-1);
            }
            if (check(a) == -3 || check(b) == -3) {
                return refuse(-3);
            }
            return studsOf(a, b);
        }

        List<Integer> there() {
            List<Integer> all = new ArrayList<>();
            for (int b = 0; b < bricks.size(); b++) {
                if (!bricks.get(b).gone) {
                    all.add(b);
                }
            }
            return all;
        }

        /** Merges sets until nothing of two of them hangs together. */
        List<List<Integer>> piecesAmong(List<Integer> some) {
            List<List<Integer>> sets = new ArrayList<>();
            for (int b : some) {
                List<Integer> joined = new ArrayList<>();
                joined.add(b);
                List<List<Integer>> others = new ArrayList<>();
                for (List<Integer> set : sets) {
                    boolean hangs = false;
                    for (int other : set) {
                        hangs |= studsOf(b, other) > 0;
                    }
                    if (hangs) {
                        joined.addAll(set);
                    } else {
                        others.add(set);
                    }
                }
                others.add(joined);
                sets = others;
            }
            for (List<Integer> set : sets) {
                Collections.sort(set);
            }
            sets.sort((p, q) -> Integer.compare(p.get(0), q.get(0)));
            return sets;
        }

        List<List<Integer>> pieceList() {
            return piecesAmong(there());
        }

        int pieces() {
            return pieceList().size();
        }

        List<Integer> pieceWith(int brick) {
            for (List<Integer> set : pieceList()) {
                if (set.contains(brick)) {
                    return set;
                }
            }
            throw new IllegalStateException("a brick without a piece");
        }

        int piece(int brick) {
            return check(brick) != 0 ? refuse(check(brick)) : pieceList().indexOf(pieceWith(brick));
        }

        int cellsOf(List<Integer> set) {
            int n = 0;
            for (int b : set) {
                n += bricks.get(b).cells();
            }
            return n;
        }

        boolean floats(List<Integer> set) {
            for (int b : set) {
                if (bricks.get(b).z == 0) {
                    return false;
                }
            }
            return true;
        }

        static long turnOf(long[] o, long[] a, long[] b) {
            return (a[0] - o[0]) * (b[1] - o[1]) - (a[1] - o[1]) * (b[0] - o[0]);
        }

        /** Lower and upper chain of the sorted points, counterclockwise. */
        static List<long[]> hullOf(List<long[]> points) {
            points.sort((p, q) -> p[0] != q[0] ? Long.compare(p[0], q[0]) : Long.compare(p[1], q[1]));
            List<long[]> hull = new ArrayList<>();
            for (int pass = 0; pass < 2; pass++) {
                int start = hull.size();
                for (long[] p : points) {
                    while (hull.size() >= start + 2 && turnOf(hull.get(hull.size() - 2), hull.get(hull.size() - 1), p) <= 0) {
                        hull.remove(hull.size() - 1);
                    }
                    hull.add(p);
                }
                hull.remove(hull.size() - 1);
                Collections.reverse(points);
            }
            return hull;
        }

        boolean stands(List<Integer> set) {
            if (floats(set)) {
                return false;
            }
            long scale = 2L * cellsOf(set);
            long[] middle = {0, 0};
            List<long[]> corners = new ArrayList<>();
            for (int b : set) {
                Brick it = bricks.get(b);
                for (int x = it.x; x < it.endX(); x++) {
                    for (int y = it.y; y < it.endY(); y++) {
                        middle[0] += 2 * x + 1;
                        middle[1] += 2 * y + 1;
                    }
                }
                if (it.z == 0) {
                    corners.add(new long[] {scale * it.x, scale * it.y});
                    corners.add(new long[] {scale * it.x, scale * it.endY()});
                    corners.add(new long[] {scale * it.endX(), scale * it.y});
                    corners.add(new long[] {scale * it.endX(), scale * it.endY()});
                }
            }
            List<long[]> hull = hullOf(corners);
            for (int i = 0; i < hull.size(); i++) {
                if (turnOf(hull.get(i), hull.get((i + 1) % hull.size()), middle) < 0) {
                    return false;
                }
            }
            return true;
        }

        int pieceOf(int piece, int what) {
            List<List<Integer>> all = pieceList();
            if (piece < 0 || piece >= all.size()) {
                return refuse(-1);
            }
            if (what < 0 || what > 3) {
                return refuse(-2);
            }
            List<Integer> set = all.get(piece);
            int[] answers = {cellsOf(set), floats(set) ? 1 : 0, stands(set) ? 1 : 0, set.size()};
            return answers[what];
        }

        List<List<Integer>> restWithout(int brick, List<Integer> set) {
            List<Integer> rest = new ArrayList<>(set);
            rest.remove(Integer.valueOf(brick));
            return piecesAmong(rest);
        }

        int key(int brick) {
            if (check(brick) != 0) {
                return refuse(check(brick));
            }
            return restWithout(brick, pieceWith(brick)).size() >= 2 ? 1 : 0;
        }

        int weakIn(int brick, List<Integer> set) {
            List<List<Integer>> rest = restWithout(brick, set);
            if (rest.size() < 2 || floats(set)) {
                return 0;
            }
            int n = 0;
            for (List<Integer> part : rest) {
                int shared = 0;
                for (int b : part) {
                    shared += studsOf(b, brick);
                }
                if (floats(part) && cellsOf(part) > grip * shared) {
                    n++;
                }
            }
            return n;
        }

        int weak(int brick) {
            return check(brick) != 0 ? refuse(check(brick)) : weakIn(brick, pieceWith(brick));
        }

        boolean isSound(List<Integer> some) {
            for (List<Integer> set : piecesAmong(some)) {
                if (floats(set) || !stands(set)) {
                    return false;
                }
                for (int b : set) {
                    if (weakIn(b, set) > 0) {
                        return false;
                    }
                }
            }
            return true;
        }

        int sound() {
            return isSound(there()) ? 1 : 0;
        }

        int grip(int v) {
            if (v < 1) {
                return refuse(-4);
            }
            if (v > 40) {
                return refuse(-6);
            }
            int old = grip;
            grip = v;
            return old;
        }

        int fit(int what) {
            if (what < 0 || what > 2) {
                return refuse(-2);
            }
            int[] n = new int[3];
            for (int x = 0; x < 6; x++) {
                for (int y = 0; y < 6; y++) {
                    for (int z = 0; z < 5; z++) {
                        int b = brickAt(x, y, z);
                        int c = body[x][y][z];
                        n[0] += c != 0 && b < 0 ? 1 : 0;
                        n[1] += c != 0 && b >= 0 && bricks.get(b).colour != c && !isInner(x, y, z) ? 1 : 0;
                        n[2] += c == 0 && b >= 0 ? 1 : 0;
                    }
                }
            }
            return n[what];
        }

        static boolean isSeam(int[][] layer, int x, int y, int dx, int dy) {
            if (x + dx > 5 || y + dy > 5) {
                return false;
            }
            int a = layer[x][y];
            int b = layer[x + dx][y + dy];
            return a >= 0 && b >= 0 && a != b;
        }

        int[][] layer(int z) {
            int[][] layer = new int[6][6];
            for (int x = 0; x < 6; x++) {
                for (int y = 0; y < 6; y++) {
                    layer[x][y] = brickAt(x, y, z);
                }
            }
            return layer;
        }

        static int seamsIn(int[][] layer, int[][] below) {
            int n = 0;
            for (int x = 0; x < 6; x++) {
                for (int y = 0; y < 6; y++) {
                    n += isSeam(layer, x, y, 1, 0) && (below == null || isSeam(below, x, y, 1, 0)) ? 1 : 0;
                    n += isSeam(layer, x, y, 0, 1) && (below == null || isSeam(below, x, y, 0, 1)) ? 1 : 0;
                }
            }
            return n;
        }

        int seams(boolean over) {
            int n = 0;
            for (int z = over ? 1 : 0; z < 5; z++) {
                n += seamsIn(layer(z), over ? layer(z - 1) : null);
            }
            return n;
        }

        /** Tries all ways to cover and keeps the best; of equals the one that was tried first. */
        final class Search {
            final int z;
            final int[][] wish = new int[6][6];
            final int[][] now;
            final int[][] below;
            final int[][] above;
            final List<Integer> row = new ArrayList<>();
            final Map<Long, Integer> fewest = new HashMap<>();
            List<Integer> best = new ArrayList<>();
            int cells = 0;
            int bestSeams = 0;
            boolean found = false;
            final int before;

            Search(int colour, int z) {
                this.z = z;
                now = layer(z);
                below = z > 0 ? layer(z - 1) : empty();
                above = z < 4 ? layer(z + 1) : empty();
                for (int x = 0; x < 6; x++) {
                    for (int y = 0; y < 6; y++) {
                        wish[x][y] = body[x][y][z] == colour && now[x][y] < 0 ? 1 : 0;
                        cells += wish[x][y];
                    }
                }
                before = overNow();
            }

            int[][] empty() {
                int[][] none = new int[6][6];
                for (int[] line : none) {
                    Arrays.fill(line, -1);
                }
                return none;
            }

            int overNow() {
                return seamsIn(now, below) + seamsIn(above, now);
            }

            int firstFree() {
                for (int spot = 0; spot < 36; spot++) {
                    if (wish[spot % 6][spot / 6] == 1) {
                        return spot;
                    }
                }
                return -1;
            }

            long state() {
                long state = 0;
                for (int spot = 0; spot < 36; spot++) {
                    state |= (long) wish[spot % 6][spot / 6] << spot;
                }
                return state;
            }

            boolean put(Brick b, int from, int to, int number) {
                for (int x = b.x; x < b.endX(); x++) {
                    for (int y = b.y; y < b.endY(); y++) {
                        if (x > 5 || y > 5 || wish[x][y] != from) {
                            return false;
                        }
                    }
                }
                for (int x = b.x; x < b.endX(); x++) {
                    for (int y = b.y; y < b.endY(); y++) {
                        wish[x][y] = to;
                        now[x][y] = number;
                    }
                }
                return true;
            }

            /** Only the number of bricks is kept per rest here; seams are counted on whole covers. */
            int fewestFromHere() {
                int spot = firstFree();
                if (spot < 0) {
                    return 0;
                }
                Integer known = fewest.get(state());
                if (known != null) {
                    return known;
                }
                int least = 99;
                for (int shape = 13; shape >= 0; shape--) {
                    Brick b = new Brick(shape / 2, 1 - shape % 2, spot % 6, spot / 6, z, 1);
                    if (put(b, 1, 0, 1000)) {
                        least = Math.min(least, 1 + fewestFromHere());
                        put(b, 0, 1, -1);
                    }
                }
                fewest.put(state(), least);
                return least;
            }

            void all(int left) {
                int spot = firstFree();
                if (spot < 0) {
                    int more = overNow() - before;
                    if (!found || more < bestSeams) {
                        found = true;
                        bestSeams = more;
                        best = new ArrayList<>(row);
                    }
                    return;
                }
                for (int kind = 6; kind >= 0; kind--) {
                    for (int turn = 0; turn < 2; turn++) {
                        Brick b = new Brick(kind, turn, spot % 6, spot / 6, z, 1);
                        if (put(b, 1, 0, 1000 + row.size())) {
                            if (1 + fewestFromHere() <= left) {
                                row.add(kind + 10 * turn + 100 * b.x + 1000 * b.y);
                                all(left - 1);
                                row.remove(row.size() - 1);
                            }
                            put(b, 0, 1, -1);
                        }
                    }
                }
            }
        }

        Search search(int colour, int z) {
            Search search = new Search(colour, z);
            if (search.cells <= 16) {
                search.all(search.fewestFromHere());
            }
            return search;
        }

        int checkCover(int colour, int z) {
            if (colour < 1 || colour > 5 || z < 0 || z > 4) {
                return -1;
            }
            return new Search(colour, z).cells > 16 ? -6 : 0;
        }

        int cover(int colour, int z) {
            int no = checkCover(colour, z);
            return no != 0 ? refuse(no) : search(colour, z).best.size();
        }

        int coverSeams(int colour, int z) {
            int no = checkCover(colour, z);
            return no != 0 ? refuse(no) : search(colour, z).bestSeams;
        }

        int coverAt(int colour, int z, int i) {
            int no = checkCover(colour, z);
            if (no != 0) {
                return refuse(no);
            }
            List<Integer> best = search(colour, z).best;
            return i >= 0 && i < best.size() ? best.get(i) : -9;
        }

        int lay(int colour, int z) {
            int no = checkCover(colour, z);
            if (no != 0) {
                return refuse(no);
            }
            List<Integer> best = search(colour, z).best;
            if (bricks.size() + best.size() > 40) {
                return refuse(-6);
            }
            for (int told : best) {
                bricks.add(new Brick(told % 10, told / 10 % 10, told / 100 % 10, told / 1000, z, colour));
            }
            return best.size();
        }

        int box(int kind, int n) {
            if (kind < 0 || kind > 6) {
                return refuse(-1);
            }
            if (n < 0) {
                return refuse(-4);
            }
            if (n > 99) {
                return refuse(-6);
            }
            int old = stock[kind];
            stock[kind] = n;
            return old;
        }

        int[] lackingOfAll() {
            int[] need = new int[7];
            for (int b : there()) {
                need[bricks.get(b).kind]++;
            }
            int[] used = new int[7];
            int[] lack = new int[7];
            for (int kind = 6; kind >= 0; kind--) {
                for (int i = stock[kind]; i < need[kind]; i++) {
                    int[] parts = MADE_OF[kind];
                    if (parts == null) {
                        lack[kind]++;
                        continue;
                    }
                    used[parts[0]]++;
                    used[parts[1]]++;
                    boolean enough = true;
                    for (int part : parts) {
                        enough &= stock[part] - need[part] - used[part] >= 0;
                    }
                    if (!enough) {
                        used[parts[0]]--;
                        used[parts[1]]--;
                        lack[kind]++;
                    }
                }
            }
            return lack;
        }

        int lacking() {
            int n = 0;
            for (int lack : lackingOfAll()) {
                n += lack;
            }
            return n;
        }

        int lacks(int kind) {
            return kind < 0 || kind > 6 ? refuse(-1) : lackingOfAll()[kind];
        }

        boolean comesFromAbove(int brick, List<Integer> put) {
            Brick it = bricks.get(brick);
            for (int other : put) {
                for (int x = it.x; x < it.endX(); x++) {
                    for (int y = it.y; y < it.endY(); y++) {
                        if (bricks.get(other).z > it.z && bricks.get(other).covers(x, y)) {
                            return false;
                        }
                    }
                }
            }
            return true;
        }

        /** Goes through rows from the first on; sets that led nowhere are not gone into again. */
        boolean build(List<Integer> put, List<Integer> all, Set<Set<Integer>> hopeless) {
            if (put.size() == all.size()) {
                return true;
            }
            if (hopeless.contains(new HashSet<>(put))) {
                return false;
            }
            for (int b : all) {
                if (!put.contains(b) && comesFromAbove(b, put)) {
                    put.add(b);
                    if (isSound(put) && build(put, all, hopeless)) {
                        return true;
                    }
                    put.remove(put.size() - 1);
                }
            }
            hopeless.add(new HashSet<>(put));
            return false;
        }

        /** Empty if there is no ORDER. */
        List<Integer> row() {
            List<Integer> row = new ArrayList<>();
            return build(row, there(), new HashSet<>()) ? row : new ArrayList<>();
        }

        int order(int k) {
            if (there().size() > 12) {
                return refuse(-6);
            }
            List<Integer> row = row();
            return k >= 0 && k < row.size() ? row.get(k) : -9;
        }

        int seen(int side, int u, int v) {
            if (side < 0 || side > 4) {
                return refuse(-2);
            }
            if (u < 0 || u > 5 || v < 0 || v > (side == 4 ? 5 : 4)) {
                return refuse(-1);
            }
            int colour = 0;
            int nearest = 99;
            for (int b : there()) {
                Brick it = bricks.get(b);
                boolean onX = u >= it.x && u < it.endX();
                boolean onY = u >= it.y && u < it.endY();
                int far = 99;
                if (side == 0 && onX && it.z == v) {
                    far = it.y;
                } else if (side == 1 && onY && it.z == v) {
                    far = 6 - it.endX();
                } else if (side == 2 && onX && it.z == v) {
                    far = 6 - it.endY();
                } else if (side == 3 && onY && it.z == v) {
                    far = it.x;
                } else if (side == 4 && it.covers(u, v)) {
                    far = 4 - it.z;
                }
                if (far < nearest) {
                    nearest = far;
                    colour = it.colour;
                }
            }
            return colour;
        }

        int brickOf(int brick, int what) {
            if (check(brick) == -1) {
                return refuse(-1);
            }
            if (what < 0 || what > 6) {
                return refuse(-2);
            }
            Brick it = bricks.get(brick);
            int[] answers = {it.kind, it.turn, it.x, it.y, it.z, it.colour, it.gone ? 1 : 0};
            return answers[what];
        }

        int count(int what) {
            if (what >= 11 && what <= 16) {
                return refusals[what - 10];
            }
            int n = 0;
            switch (what) {
                case 0:
                    for (int[][] plane : body) {
                        for (int[] line : plane) {
                            for (int c : line) {
                                n += c != 0 ? 1 : 0;
                            }
                        }
                    }
                    return n;
                case 1:
                    return there().size();
                case 2:
                    return bricks.size();
                case 3:
                    for (int b : there()) {
                        n += restWithout(b, pieceWith(b)).size() >= 2 ? 1 : 0;
                    }
                    return n;
                case 4:
                    for (List<Integer> set : pieceList()) {
                        n += floats(set) ? 1 : 0;
                    }
                    return n;
                case 5:
                    return grip;
                default:
                    return -9;
            }
        }
    }
}
