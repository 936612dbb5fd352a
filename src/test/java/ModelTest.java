import java.util.Random;

/**
 * Many runs of made-up calls, each answered by LinkScript and by the Model.
 * The seeds are fixed, so every run of the test makes the same calls.
 */
public final class ModelTest {
    private static final int RUNS = 6000;
    private static final int[] ALIGNS = {1, 2, 4, 8, 16};

    private final Random dice;
    private final String name;
    private final LinkScript x;
    private final Model y;
    private boolean inSection;
    private boolean inGroup;

    private ModelTest(int seed) {
        dice = new Random(seed);
        name = "seed " + seed + ": ";
        int romSize = sizeForTest();
        int ramSize = sizeForTest();
        x = new LinkScript(romSize, ramSize);
        y = new Model(romSize, ramSize);
    }

    public static void main(String[] args) {
        int[] answers = new int[10];
        // One wrong run says enough; the rest would bury it.
        for (int seed = 0; seed < RUNS && Check.allAsDue(); seed++) {
            answers[-new ModelTest(seed).run()]++;
        }
        // A generator that never links, or never meets a refusal, tests little.
        for (int code = 0; code < answers.length; code++) {
            boolean fromLink = code == 0 || code >= 5;
            boolean enough = !fromLink || answers[code] > 50 || !Check.allAsDue();
            Check.due("enough links that answer " + -code, enough ? 1 : 0, 1);
        }
        Check.finish();
    }

    private int sizeForTest() {
        return dice.nextInt(4) == 0 ? dice.nextInt(160) - 10 : 64 + dice.nextInt(70);
    }

    private boolean chance(int percent) {
        return dice.nextInt(100) < percent;
    }

    private int run() {
        compareAll("new");
        int steps = 10 + dice.nextInt(110);
        for (int i = 0; i < steps; i++) {
            feed();
        }
        if (chance(20)) {
            compareAll("fed");
        }
        if (chance(95)) {
            close();
        }
        boolean gc = dice.nextBoolean();
        int first = same("link " + gc, x.link(gc), y.link(gc));
        compareAll("after the first link");
        for (int i = 0; i < 5; i++) {
            feed();
        }
        close();
        same("second link", x.link(!gc), y.link(!gc));
        same("early loadOverlay", x.loadOverlay(0), y.loadOverlay(0));
        compareAll("after the second link");
        rangesAreDisjoint();
        same("startup", x.startup(), y.startup());
        compareAll("started");
        for (int i = 0; i < 6; i++) {
            int k = dice.nextInt(10) - 1;
            same("loadOverlay " + k, x.loadOverlay(k), y.loadOverlay(k));
            compareAll("after loadOverlay " + k);
        }
        same("second startup", x.startup(), y.startup());
        feed();
        compareAll("at the end");
        return first;
    }

    private int same(String call, int got, int want) {
        Check.due(name + call, got, want);
        return got;
    }

    private void close() {
        if (inSection) {
            stmt(LinkScript.OP_END, 0, 0);
        }
        if (inGroup) {
            stmt(LinkScript.OP_OVERLAY_END, 0, 0);
        }
    }

    private void feed() {
        int pick = dice.nextInt(100);
        if (pick < 40) {
            feedStatement();
        } else if (pick < 55) {
            int kind = 1 + dice.nextInt(chance(3) ? 4 : 3);
            int id = dice.nextInt(chance(3) ? 18 : 4);
            int align = chance(3) ? dice.nextInt(18) : ALIGNS[dice.nextInt(chance(20) ? 5 : 3)];
            int size = chance(5) ? dice.nextInt(140) - 5 : dice.nextInt(8);
            same("beginSection", x.beginSection(kind, id, align, size), y.beginSection(kind, id, align, size));
        } else if (pick < 85) {
            int count = 1 + dice.nextInt(chance(3) ? 60 : 4);
            for (int i = 0; i < count; i++) {
                int value = dice.nextInt(600) - 300;
                same("addByte", x.addByte(value), y.addByte(value));
            }
        } else {
            int offset = dice.nextInt(5) - (chance(5) ? 1 : 0);
            int type = dice.nextInt(3) + (chance(3) ? 3 : 1);
            int target = dice.nextInt(chance(5) ? 17 : 4);
            int addend = dice.nextInt(514) - 257;
            same("addReloc", x.addReloc(offset, type, target, addend), y.addReloc(offset, type, target, addend));
        }
    }

    private void feedStatement() {
        if (chance(4)) {
            stmt(dice.nextInt(12) - 1, dice.nextInt(20) - 2, dice.nextInt(6) - 1);
        } else if (inSection) {
            int pick = dice.nextInt(100);
            if (pick < 45) {
                int op = dice.nextInt(3) == 0 ? LinkScript.OP_KEEP : LinkScript.OP_INPUT;
                stmt(op, dice.nextInt(5) - 1, dice.nextInt(4));
            } else if (pick < 85) {
                stmt(LinkScript.OP_END, 7, 7);
            } else {
                moveDot();
            }
        } else {
            int pick = dice.nextInt(100);
            if (pick < 60) {
                int region = inGroup || chance(65) ? 1 : 0;
                stmt(LinkScript.OP_SECTION, region, region == 1 && chance(20) ? 0 : 1);
            } else if (pick < 85) {
                stmt(inGroup ? LinkScript.OP_OVERLAY_END : LinkScript.OP_OVERLAY, 3, 3);
            } else {
                moveDot();
            }
        }
    }

    private void moveDot() {
        int region = dice.nextInt(2);
        int pick = dice.nextInt(10);
        if (pick < 2) {
            stmt(LinkScript.OP_DOT_SET, 256 * region + dice.nextInt(70), region);
        } else if (pick < 7) {
            stmt(LinkScript.OP_DOT_ADD, dice.nextInt(5), region);
        } else {
            stmt(LinkScript.OP_DOT_ALIGN, ALIGNS[dice.nextInt(5)], region);
        }
    }

    private void stmt(int op, int a, int b) {
        int answer = same("script " + op + " " + a + " " + b, x.script(op, a, b), y.script(op, a, b));
        if (answer == LinkScript.OK) {
            inSection = op == LinkScript.OP_SECTION || inSection && op != LinkScript.OP_END;
            inGroup = op == LinkScript.OP_OVERLAY || inGroup && op != LinkScript.OP_OVERLAY_END;
        }
    }

    private void rangesAreDisjoint() {
        int outs = x.info(LinkScript.INFO_PHASE) == LinkScript.PHASE_FEED ? 0 : x.info(LinkScript.INFO_OUTS);
        for (int i = 0; i < outs; i++) {
            for (int j = 0; j < i; j++) {
                int group = x.outInfo(i, LinkScript.OUT_GROUP);
                boolean together = group >= 0 && group == x.outInfo(j, LinkScript.OUT_GROUP);
                if (!together && bothAre(i, j, LinkScript.OUT_REGION, x.outInfo(i, LinkScript.OUT_REGION))) {
                    disjoint(i, j, LinkScript.OUT_VMA);
                }
                if (bothAre(i, j, LinkScript.OUT_LOADED, 1)) {
                    disjoint(i, j, LinkScript.OUT_LMA);
                }
            }
        }
    }

    private boolean bothAre(int i, int j, int field, int value) {
        return x.outInfo(i, field) == value && x.outInfo(j, field) == value;
    }

    private void disjoint(int i, int j, int start) {
        int low = Math.max(x.outInfo(i, start), x.outInfo(j, start));
        int iEnd = x.outInfo(i, start) + x.outInfo(i, LinkScript.OUT_SIZE);
        int jEnd = x.outInfo(j, start) + x.outInfo(j, LinkScript.OUT_SIZE);
        same("field " + start + " of " + i + " and " + j + " apart", low >= Math.min(iEnd, jEnd) ? 1 : 0, 1);
    }

    private void compareAll(String when) {
        for (int f = -1; f <= 11; f++) {
            same(when + ": info " + f, x.info(f), y.info(f));
        }
        for (int k = -1; k <= 8; k++) {
            for (int f = -1; f <= 10; f++) {
                same(when + ": outInfo " + k + " " + f, x.outInfo(k, f), y.outInfo(k, f));
            }
        }
        for (int s = -1; s <= 16; s++) {
            for (int f = -1; f <= 9; f++) {
                same(when + ": inInfo " + s + " " + f, x.inInfo(s, f), y.inInfo(s, f));
            }
        }
        for (int addr = -1; addr <= 385; addr++) {
            same(when + ": romByte " + addr, x.romByte(addr), y.romByte(addr));
            same(when + ": ramByte " + addr, x.ramByte(addr), y.ramByte(addr));
            same(when + ": runByte " + addr, x.runByte(addr), y.runByte(addr));
            if (x.info(LinkScript.INFO_PHASE) == LinkScript.PHASE_STARTED) {
                int memory = addr < LinkScript.RAM_BASE ? x.romByte(addr) : x.ramByte(addr);
                same(when + ": memory is the run image at " + addr, x.runByte(addr), memory);
            }
        }
    }
}
