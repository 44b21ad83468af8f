import java.io.IOException;
import java.nio.file.Files;
import java.nio.file.Path;
import java.util.ArrayList;
import java.util.List;

/** What the tests share: counting what is wrong, and looking at calls that must change nothing. */
class Checks {
    static final int LOWEST = Integer.MIN_VALUE;
    static final int HIGHEST = Integer.MAX_VALUE;
    private static final int PROBES_A_RUN = 220;
    private static final List<Call> PROBES = probes();
    private static int wrong = 0;
    private static String document = null;
    /** Which promise or sentence is being tested. */
    static String tested = "";

    interface Setup {
        void on(BrickModels m);
    }

    interface Call {
        int on(BrickModels m);
    }

    static void due(String what, int got, int want) {
        if (got != want) {
            wrong++;
            System.out.println(tested + ": " + what + " answered " + got + ", due is " + want);
        }
    }

    static void fail(String what) {
        wrong++;
        System.out.println(tested + ": " + what);
    }

    /** The words of the document that the checks behind this call are about. */
    static void says(String words) {
        tested = '"' + words + '"';
        if (!document().contains(words)) {
            fail("the document doesn't say so");
        }
    }

    private static String document() {
        if (document == null) {
            try {
                document = Files.readString(Path.of("../shared/DOC.md"));
            } catch (IOException e) {
                document = "";
                fail("the document can't be read: " + e);
            }
        }
        return document;
    }

    static void end() {
        System.out.println(wrong == 0 ? "all answers are as due" : wrong + " answers are not as due");
        if (wrong != 0) {
            System.exit(1);
        }
    }

    /** A REFUSAL: it is counted, once, and nothing else changes. */
    static void refused(String what, Setup setup, Call call, int want) {
        BrickModels m = new BrickModels();
        setup.on(m);
        int[] before = refusalsOf(m);
        due(what, call.on(m), want);
        int[] after = refusalsOf(m);
        for (int i = 1; i <= 6; i++) {
            due(what + ", then count(" + (10 + i) + ")", after[i], before[i] + (i == -want ? 1 : 0));
        }
        unchanged(what, setup, call);
    }

    /** An answer that is no REFUSAL, of a call that only asks. */
    static void calm(String what, Setup setup, Call call, int want) {
        BrickModels m = new BrickModels();
        setup.on(m);
        int[] before = refusalsOf(m);
        due(what, call.on(m), want);
        int[] after = refusalsOf(m);
        for (int i = 1; i <= 6; i++) {
            due(what + ", then count(" + (10 + i) + ")", after[i], before[i]);
        }
        unchanged(what, setup, call);
    }

    private static int[] refusalsOf(BrickModels m) {
        int[] counts = new int[7];
        for (int i = 1; i <= 6; i++) {
            counts[i] = m.count(10 + i);
        }
        return counts;
    }

    /** All that can be asked, with and without the call ahead; few enough calls to each object. */
    static void unchanged(String what, Setup setup, Call call) {
        for (int from = 0; from < PROBES.size(); from += PROBES_A_RUN) {
            BrickModels without = new BrickModels();
            BrickModels with = new BrickModels();
            setup.on(without);
            setup.on(with);
            call.on(with);
            for (int i = from; i < Math.min(from + PROBES_A_RUN, PROBES.size()); i++) {
                due(what + ", then probe " + i, PROBES.get(i).on(with), PROBES.get(i).on(without));
            }
        }
    }

    private static List<Call> probes() {
        List<Call> all = new ArrayList<>();
        probeSpots(all);
        probeBricks(all);
        probeLayers(all);
        for (int i = 0; i <= 5; i++) {
            int what = i;
            all.add(m -> m.count(what));
        }
        for (int i = 0; i < 12; i++) {
            int k = i;
            all.add(m -> m.order(k));
        }
        for (int i = 0; i < 3; i++) {
            int what = i;
            all.add(m -> m.fit(what));
        }
        all.add(BrickModels::inner);
        all.add(BrickModels::sound);
        all.add(BrickModels::pieces);
        all.add(BrickModels::lacking);
        all.add(m -> m.seams(false));
        all.add(m -> m.seams(true));
        // these change something themselves, so they come last
        for (int i = 0; i < 7; i++) {
            int kind = i;
            all.add(m -> m.lacks(kind));
            all.add(m -> m.box(kind, 0));
        }
        all.add(m -> m.grip(9));
        all.add(m -> m.lay(1, 0));
        all.add(m -> m.place(0, 0, 5, 5, 4, 1));
        all.add(m -> m.count(2));
        return all;
    }

    private static void probeSpots(List<Call> all) {
        for (int i = 0; i < 180; i++) {
            int x = i % 6;
            int y = i / 6 % 6;
            int z = i / 36;
            all.add(m -> m.cellOf(x, y, z));
            all.add(m -> m.at(x, y, z));
            for (int side = 0; side < 4 && y == 0; side++) {
                int from = side;
                all.add(m -> m.seen(from, x, z));
            }
            if (z == 0) {
                all.add(m -> m.seen(4, x, y));
            }
        }
    }

    private static void probeBricks(List<Call> all) {
        int[] bricks = {0, 1, 2, 3, 4, 39};
        for (int b : bricks) {
            for (int i = 0; i < 7; i++) {
                int what = i;
                all.add(m -> m.brickOf(b, what));
            }
            for (int i = 0; i < 4; i++) {
                int what = i;
                all.add(m -> m.pieceOf(b, what));
            }
            all.add(m -> m.piece(b));
            all.add(m -> m.key(b));
            all.add(m -> m.weak(b));
            all.add(m -> m.studs(b, 1));
        }
    }

    private static void probeLayers(List<Call> all) {
        for (int i = 0; i < 25; i++) {
            int colour = 1 + i % 5;
            int z = i / 5;
            all.add(m -> m.cover(colour, z));
            all.add(m -> m.coverSeams(colour, z));
            all.add(m -> m.coverAt(colour, z, 0));
            all.add(m -> m.coverAt(colour, z, 1));
        }
    }

    static void nothing(BrickModels m) {
    }

    /** A tower of two BRICKS, a floating one, one that is GONE, some CELLS, some in the BOX. */
    static void some(BrickModels m) {
        m.place(4, 0, 0, 0, 0, 1);
        m.place(6, 0, 0, 0, 1, 2);
        m.place(0, 1, 5, 5, 3, 3);
        m.place(1, 1, 4, 4, 0, 4);
        m.take(3);
        m.cell(0, 0, 0, 1);
        m.cell(4, 0, 0, 1);
        m.cell(4, 1, 0, 1);
        m.cell(5, 5, 4, 5);
        m.box(1, 3);
        m.box(6, 1);
        m.grip(2);
    }

    /** 36 BRICKS in LAYER 0 and 4 in LAYER 1: all that may ever be placed. */
    static void forty(BrickModels m) {
        for (int i = 0; i < 40; i++) {
            m.place(0, 0, i % 6, i / 6 % 6, i / 36, 1);
        }
    }

    /** Rows of signs, y by y; each # is a CELL. */
    static void cells(BrickModels m, int z, int colour, String... rows) {
        for (int y = 0; y < rows.length; y++) {
            for (int x = 0; x < rows[y].length(); x++) {
                if (rows[y].charAt(x) == '#') {
                    m.cell(x, y, z, colour);
                }
            }
        }
    }
}
