import java.util.ArrayList;
import java.util.List;

/**
 * "A refused call answers a negative ERR_ code and changes nothing." Beside a
 * run of calls stand many tries. At each point of the run each try is made on
 * an object of its own; if it is refused there, the object answers as before,
 * and the rest of the run goes on as if the try had not been made.
 */
public final class RefusalTest {
    private static final int[] EXTREMES = {Integer.MIN_VALUE, Integer.MAX_VALUE};
    // By code: how many tries were refused with it.
    private static final int[] REFUSED = new int[10];

    private final List<Call> run = new ArrayList<>();
    private final List<Integer> answers = new ArrayList<>();
    private final List<State> states = new ArrayList<>();

    public static void main(String[] args) {
        List<Call> tries = tries();
        RefusalTest small = new RefusalTest();
        small.addSmallRun();
        small.remember();
        for (int at = 0; at <= small.run.size(); at++) {
            small.tryAll(at, tries);
        }
        RefusalTest full = new RefusalTest();
        full.addFullRun();
        isFull(full.remember());
        // Only the last calls and the three phases behind them find it full.
        for (int at = full.run.size() - 5; at <= full.run.size(); at++) {
            full.tryAll(at, tries);
        }
        for (int code = 1; code < REFUSED.length; code++) {
            Check.due("some try is refused with " + -code, REFUSED[code] > 0 ? 1 : 0, 1);
        }
        Check.finish();
    }

    private LinkScript remember() {
        LinkScript x = new LinkScript(64, 64);
        states.add(State.of(x));
        for (Call c : run) {
            answers.add(c.on(x));
            states.add(State.of(x));
        }
        Check.due("the run ends started", x.info(LinkScript.INFO_PHASE), LinkScript.PHASE_STARTED);
        return x;
    }

    private static void isFull(LinkScript x) {
        Feed.info("full", x, LinkScript.INFO_STMTS, LinkScript.MAX_STMTS);
        Feed.info("full", x, LinkScript.INFO_OUTS, LinkScript.MAX_OUT);
        Feed.info("full", x, LinkScript.INFO_INS, LinkScript.MAX_IN);
        Feed.info("full", x, LinkScript.INFO_BYTES, LinkScript.MAX_BYTES);
        Feed.info("full", x, LinkScript.INFO_RELOCS, LinkScript.MAX_RELOCS);
        Feed.info("full", x, LinkScript.INFO_GROUPS, LinkScript.MAX_GROUPS);
    }

    private void tryAll(int at, List<Call> tries) {
        for (Call c : tries) {
            // One wrong try says enough; the rest would bury it.
            if (Check.allAsDue()) {
                tryOne(at, c);
            }
        }
    }

    private void tryOne(int at, Call tried) {
        LinkScript x = new LinkScript(64, 64);
        for (int i = 0; i < at; i++) {
            run.get(i).on(x);
        }
        int answer = tried.on(x);
        if (answer >= 0) {
            return;
        }
        String when = tried + " refused before call " + at;
        Check.due(when + ": a code, " + answer, answer >= LinkScript.ERR_OVERFLOW ? 1 : 0, 1);
        REFUSED[-answer % REFUSED.length]++;
        states.get(at).isStill(when, x);
        for (int i = at; i < run.size(); i++) {
            Check.due(when + ", then " + run.get(i), run.get(i).on(x), answers.get(i));
        }
        states.get(run.size()).isStill(when + ", at the end", x);
    }

    private void stmt(int op, int a, int b) {
        run.add(Call.script(op, a, b));
    }

    private void begin(int kind, int id, int align, int size) {
        run.add(Call.beginSection(kind, id, align, size));
    }

    private void bytes(int count, int first) {
        for (int i = 0; i < count; i++) {
            run.add(Call.addByte(first + i));
        }
    }

    private void reloc(int offset, int type, int target, int addend) {
        run.add(Call.addReloc(offset, type, target, addend));
    }

    private void linkAndStart() {
        run.add(Call.link(true));
        run.add(Call.startup());
    }

    private void load(int k) {
        run.add(Call.loadOverlay(k));
    }

    private void addSmallRun() {
        stmt(LinkScript.OP_DOT_ADD, 5, 1);
        stmt(LinkScript.OP_SECTION, 0, 1);
        begin(LinkScript.KIND_TEXT, 0, 2, 0);
        bytes(3, 10);
        stmt(LinkScript.OP_KEEP, 0, 0);
        stmt(LinkScript.OP_INPUT, 5, 0);
        reloc(1, LinkScript.R_PC16, 1, -9);
        stmt(LinkScript.OP_END, 0, 0);
        stmt(LinkScript.OP_OVERLAY, 0, 0);
        begin(LinkScript.KIND_DATA, 1, 1, 0);
        bytes(2, 20);
        stmt(LinkScript.OP_SECTION, 1, 1);
        stmt(LinkScript.OP_INPUT, 1, 2);
        stmt(LinkScript.OP_DOT_ADD, 3, 0);
        stmt(LinkScript.OP_END, 0, 0);
        begin(LinkScript.KIND_BSS, 2, 4, 3);
        stmt(LinkScript.OP_SECTION, 1, 0);
        stmt(LinkScript.OP_KEEP, 2, 0);
        stmt(LinkScript.OP_INPUT, 6, 0);
        stmt(LinkScript.OP_END, 0, 0);
        stmt(LinkScript.OP_OVERLAY_END, 0, 0);
        stmt(LinkScript.OP_DOT_ALIGN, 8, 1);
        stmt(LinkScript.OP_SECTION, 1, 1);
        stmt(LinkScript.OP_KEEP, -1, 2);
        stmt(LinkScript.OP_END, 0, 0);
        begin(LinkScript.KIND_DATA, 3, 1, 0);
        bytes(2, 30);
        reloc(0, LinkScript.R_LMA16, 1, 5);
        addFaultsThatCollectionRemoves();
        linkAndStart();
        load(2);
        load(1);
    }

    // From call to call link(false) is refused with ERR_OVERFLOW, ERR_BACKWARD,
    // ERR_NOLOAD and ERR_UNDEF, while link(true) stays possible.
    private void addFaultsThatCollectionRemoves() {
        begin(LinkScript.KIND_BSS, 5, 1, 100);
        stmt(LinkScript.OP_DOT_SET, 60, 0);
        begin(LinkScript.KIND_TEXT, 6, 1, 0);
        bytes(2, 40);
        reloc(0, LinkScript.R_ABS16, 15, 0);
    }

    private void addFullRun() {
        for (int g = 0; g < LinkScript.MAX_GROUPS; g++) {
            stmt(LinkScript.OP_OVERLAY, 0, 0);
            stmt(LinkScript.OP_SECTION, 1, 1);
            stmt(LinkScript.OP_KEEP, g, 0);
            stmt(LinkScript.OP_END, 0, 0);
            stmt(LinkScript.OP_OVERLAY_END, 0, 0);
        }
        for (int k = LinkScript.MAX_GROUPS; k < LinkScript.MAX_OUT; k++) {
            stmt(LinkScript.OP_SECTION, k % 2, 1);
            stmt(LinkScript.OP_KEEP, k, 0);
            stmt(LinkScript.OP_END, 0, 0);
        }
        for (int s = 0; s < LinkScript.MAX_IN - 1; s++) {
            begin(LinkScript.KIND_DATA, s, 1, 0);
            bytes(s < 8 ? 3 : s == 14 ? 222 : 1, 16 * s);
        }
        // The last section is in ROM, so that a change of the last byte or relocation shows.
        begin(LinkScript.KIND_DATA, 7, 1, 0);
        bytes(4, 240);
        for (int r = 0; r < LinkScript.MAX_RELOCS; r++) {
            reloc(r % 2, LinkScript.R_ABS16, r % 8, r);
        }
        linkAndStart();
        load(3);
    }

    private static List<Call> tries() {
        List<Call> all = new ArrayList<>();
        int[] as = {-2, -1, 0, 1, 3, 15, 16, 256, 1024};
        int[] bs = {-1, 0, 1, 2, 4};
        for (int op = -1; op <= 10; op++) {
            for (int a : as) {
                for (int b : bs) {
                    all.add(Call.script(op, a, b));
                }
            }
        }
        addTriesOfFeeding(all);
        for (int k = -1; k <= 9; k++) {
            all.add(Call.loadOverlay(k));
        }
        for (int extreme : EXTREMES) {
            all.add(Call.script(extreme, 0, 0));
            all.add(Call.script(LinkScript.OP_SECTION, extreme, 1));
            all.add(Call.script(LinkScript.OP_DOT_ALIGN, extreme, 1));
            all.add(Call.loadOverlay(extreme));
        }
        all.add(Call.link(false));
        all.add(Call.link(true));
        all.add(Call.startup());
        return all;
    }

    private static void addTriesOfFeeding(List<Call> all) {
        int[][] begins = {{0, 0, 1, 0}, {4, 0, 1, 0}, {1, -1, 1, 0}, {2, 16, 1, 0}, {1, 0, 0, 0},
            {2, 0, 3, 0}, {3, 0, 32, 0}, {3, 0, 1, -1}, {3, 0, 1, 129}, {1, 0, 1, 0}, {3, 15, 16, 128}};
        for (int[] b : begins) {
            all.add(Call.beginSection(b[0], b[1], b[2], b[3]));
        }
        int[][] relocs = {{-1, 1, 0, 0}, {255, 1, 0, 0}, {0, 0, 0, 0}, {0, 4, 0, 0}, {0, 1, -1, 0},
            {0, 1, 16, 0}, {0, 1, 0, -257}, {0, 1, 0, 256}, {0, 1, 0, 0}, {1, 3, 15, 255}, {3, 2, 1, 1}};
        for (int[] r : relocs) {
            all.add(Call.addReloc(r[0], r[1], r[2], r[3]));
        }
        all.add(Call.addByte(7));
        all.add(Call.addByte(-1));
    }
}
