public final class Promise12To14InfoTest {
    private static final int[] NO_FIELDS = {Integer.MIN_VALUE, -1, 11, 12, Integer.MAX_VALUE};

    public static void main(String[] args) {
        outInfoInFeed();
        outInfo();
        outInfoOfNothing();
        inInfoInFeed();
        inInfo();
        inInfoOfNothing();
        infoCountsAcceptedCalls();
        infoOfNothing();
        Check.finish();
    }

    private static void outInfoInFeed() {
        LinkScript x = new LinkScript(64, 64);
        Feed.section(x, 1, 1, LinkScript.OP_KEEP, 0);
        Feed.out("feed", x, 0, -1, -1, -1, -1, -1, -1, -1, -1, -1, -1);
    }

    private static void outInfo() {
        LinkScript x = Overlays.linked();
        Feed.out("linked", x, 0, 0, 0, 3, 0, 1, -1, 0, 1, -1, -1);
        Feed.out("linked", x, 1, 256, 3, 2, 1, 1, -1, 0, 1, -1, -1);
        Feed.out("linked", x, 2, 260, 5, 4, 1, 1, 0, 1, 1, 260, 264);
        Feed.out("linked", x, 3, 260, 10, 2, 1, 1, 0, 0, 2, 260, 264);
        Feed.out("linked", x, 4, 264, 264, 3, 1, 0, -1, 0, 1, -1, -1);
        Feed.out("linked", x, 5, 267, 12, 2, 1, 1, 1, 1, 1, 267, 271);
        Feed.out("linked", x, 6, 268, 268, 3, 1, 0, 1, 0, 4, 267, 271);
        Feed.out("linked", x, 7, 271, 271, 2, 1, 0, 2, 1, 1, 271, 273);
        Feed.start(x);
        x.loadOverlay(6);
        Feed.out("swapped", x, 5, 267, 12, 2, 1, 1, 1, 0, 1, 267, 271);
        Feed.out("swapped", x, 6, 268, 268, 3, 1, 0, 1, 1, 4, 267, 271);
        Feed.out("swapped", x, 2, 260, 5, 4, 1, 1, 0, 1, 1, 260, 264);
    }

    private static void outInfoOfNothing() {
        LinkScript x = new LinkScript(64, 64);
        Feed.section(x, 1, 1, LinkScript.OP_KEEP, 0);
        Feed.link(x, false);
        int[] none = {Integer.MIN_VALUE, -1, 1, 7, 8, Integer.MAX_VALUE};
        for (int k : none) {
            for (int f = 0; f <= 9; f++) {
                Check.due("outInfo(" + k + ", " + f + ")", x.outInfo(k, f), -1);
            }
        }
        for (int f : NO_FIELDS) {
            Check.due("outInfo(0, " + f + ")", x.outInfo(0, f), -1);
        }
        Check.due("outInfo(0, 10)", x.outInfo(0, 10), -1);
    }

    private static void inInfoInFeed() {
        LinkScript x = new LinkScript(64, 64);
        Feed.section(x, 0, 1, LinkScript.OP_KEEP, -1);
        Feed.bytes(x, LinkScript.KIND_DATA, 12, 8);
        Check.due("size", x.inInfo(0, LinkScript.IN_SIZE), 0);
        x.addByte(1);
        Check.due("size", x.inInfo(0, LinkScript.IN_SIZE), 1);
        x.addByte(1);
        Check.due("kind", x.inInfo(0, LinkScript.IN_KIND), 2);
        Check.due("id", x.inInfo(0, LinkScript.IN_ID), 12);
        Check.due("align", x.inInfo(0, LinkScript.IN_ALIGN), 8);
        Check.due("size", x.inInfo(0, LinkScript.IN_SIZE), 2);
        Feed.in("feed", x, 0, -1, -1, -1, -1, -1);
    }

    private static void inInfo() {
        LinkScript x = new LinkScript(64, 64);
        Feed.stmt(x, LinkScript.OP_DOT_ADD, 1, 0);
        Feed.stmt(x, LinkScript.OP_DOT_ADD, 2, 1);
        Feed.section(x, 0, 1, LinkScript.OP_KEEP, 0);
        Feed.section(x, 1, 1, LinkScript.OP_KEEP, 1);
        Feed.section(x, 1, 0, LinkScript.OP_INPUT, 2);
        Feed.bytes(x, 1, 0, 1, 1, 2);
        Feed.bytes(x, 2, 1, 2, 3, 4, 5);
        Feed.bss(x, 2, 16, 6);
        Feed.bytes(x, 2, 7, 1, 8);
        Feed.link(x, true);
        for (int phase = 0; phase < 2; phase++) {
            Feed.in("ROM", x, 0, 3, 1, 0, 1, 1);
            Feed.in("RAM", x, 1, 6, 1, 1, 258, 4);
            Feed.in("not live", x, 2, 9, 0, -1, -1, -1);
            Feed.in("unassigned", x, 3, -1, 0, -1, -1, -1);
            Check.due("kind", x.inInfo(2, LinkScript.IN_KIND), 3);
            Check.due("id", x.inInfo(2, LinkScript.IN_ID), 2);
            Check.due("align", x.inInfo(2, LinkScript.IN_ALIGN), 16);
            Check.due("size", x.inInfo(2, LinkScript.IN_SIZE), 6);
            x.startup();
        }
        LinkScript y = Overlays.linked();
        Feed.in("NOLOAD", y, 4, 16, 1, 4, 264, 264);
        Feed.in("member", y, 3, 12, 1, 3, 260, 10);
    }

    private static void inInfoOfNothing() {
        LinkScript x = new LinkScript(64, 64);
        Feed.bytes(x, 1, 0, 1, 1);
        for (int round = 0; round < 2; round++) {
            int[] none = {Integer.MIN_VALUE, -1, 1, 15, 16, Integer.MAX_VALUE};
            for (int s : none) {
                for (int f = 0; f <= 8; f++) {
                    Check.due("inInfo(" + s + ", " + f + ")", x.inInfo(s, f), -1);
                }
            }
            for (int f : NO_FIELDS) {
                Check.due("inInfo(0, " + f + ")", x.inInfo(0, f), -1);
            }
            Check.due("inInfo(0, 9)", x.inInfo(0, 9), -1);
            x.link(false);
        }
    }

    private static void counts(String when, LinkScript x, int... values) {
        for (int f = 0; f < values.length; f++) {
            Feed.info(when, x, f, values[f]);
        }
    }

    private static void infoCountsAcceptedCalls() {
        LinkScript x = new LinkScript(60, 70);
        counts("new", x, 0, 0, 0, 0, 0, 0, 0, 60, 70, -1, -1);
        Feed.section(x, 0, 1, LinkScript.OP_KEEP, 0);
        x.script(1, 0, 0);
        Feed.stmt(x, LinkScript.OP_OVERLAY, 0, 0);
        Feed.section(x, 1, 1, LinkScript.OP_KEEP, 1);
        Feed.stmt(x, LinkScript.OP_OVERLAY_END, 0, 0);
        Feed.bytes(x, 1, 0, 1, 1, 2, 3);
        x.beginSection(0, 0, 1, 0);
        Feed.reloc(x, 0, 1, 0, 0);
        x.addReloc(9, 1, 0, 0);
        Feed.bytes(x, 2, 1, 4, 4);
        Feed.bss(x, 9, 1, 1);
        x.addByte(1);
        counts("fed", x, 0, 8, 2, 3, 4, 1, 1, 60, 70, -1, -1);
        Feed.link(x, true);
        counts("linked", x, 1, 8, 2, 3, 4, 1, 1, 60, 70, 5, 257);
        Feed.start(x);
        counts("started", x, 2, 8, 2, 3, 4, 1, 1, 60, 70, 5, 257);
    }

    private static void infoOfNothing() {
        LinkScript[] phases = {new LinkScript(64, 64), Overlays.linked(), Overlays.started()};
        for (LinkScript x : phases) {
            for (int f : NO_FIELDS) {
                Feed.info("no field", x, f, -1);
            }
        }
    }
}
