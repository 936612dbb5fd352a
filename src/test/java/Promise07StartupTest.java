public final class Promise07StartupTest {
    public static void main(String[] args) {
        onlyWhenLinked();
        writesRam();
        leavesTheRest();
        spanStartsBeforeAnAlignedFirstMember();
        groupWithoutMembers();
        Check.finish();
    }

    private static void onlyWhenLinked() {
        LinkScript x = new LinkScript(64, 64);
        Check.due("feed: startup", x.startup(), LinkScript.ERR_STATE);
        Feed.info("feed", x, LinkScript.INFO_PHASE, LinkScript.PHASE_FEED);
        Feed.link(x, false);
        Feed.start(x);
        Feed.info("started", x, LinkScript.INFO_PHASE, LinkScript.PHASE_STARTED);
        Check.due("started: startup", x.startup(), LinkScript.ERR_STATE);
        Feed.info("started", x, LinkScript.INFO_PHASE, LinkScript.PHASE_STARTED);
    }

    private static void writesRam() {
        LinkScript x = Overlays.linked();
        for (int i = 0; i < 32; i++) {
            Feed.ram("linked", x, 256 + i, 255);
        }
        Feed.start(x);
        Overlays.ramIs("started", x,
                11, 12, 255, 255, 21, 22, 23, 24, 0, 0, 0, 51, 52, 0, 0, 0, 0);
        Check.due("swap", x.loadOverlay(3), LinkScript.OK);
        Check.due("started: startup", x.startup(), LinkScript.ERR_STATE);
        Feed.ram("a second startup writes nothing", x, 260, 31, 32, 0, 0);
    }

    private static void leavesTheRest() {
        LinkScript x = Overlays.linked();
        LinkScript y = Overlays.started();
        Overlays.romIs("started", y);
        Overlays.residentsAre("started", y, 2, 5, 7);
        for (int k = 0; k < LinkScript.MAX_OUT; k++) {
            for (int f = 0; f <= LinkScript.OUT_SPAN_END; f++) {
                Check.due("outInfo(" + k + ", " + f + ")", y.outInfo(k, f), x.outInfo(k, f));
            }
        }
        for (int s = 0; s < 8; s++) {
            for (int f = 0; f <= LinkScript.IN_LMA; f++) {
                Check.due("inInfo(" + s + ", " + f + ")", y.inInfo(s, f), x.inInfo(s, f));
            }
        }
        for (int f = 1; f <= LinkScript.INFO_RAM_COUNTER; f++) {
            Check.due("info(" + f + ")", y.info(f), x.info(f));
        }
    }

    private static void spanStartsBeforeAnAlignedFirstMember() {
        LinkScript x = new LinkScript(32, 32);
        Feed.stmt(x, LinkScript.OP_DOT_ADD, 1, 1);
        Feed.stmt(x, LinkScript.OP_OVERLAY, 0, 0);
        Feed.section(x, 1, 1, LinkScript.OP_KEEP, 1);
        Feed.section(x, 1, 1, LinkScript.OP_KEEP, 2);
        Feed.stmt(x, LinkScript.OP_OVERLAY_END, 0, 0);
        Feed.bytes(x, 2, 1, 4, 5);
        Feed.bytes(x, 2, 2, 1, 6, 7, 8, 9, 10, 11);
        Feed.link(x, true);
        Feed.start(x);
        Overlays.ramIs("aligned first member", x, 255, 0, 0, 0, 5, 0, 0);
    }

    private static void groupWithoutMembers() {
        LinkScript x = new LinkScript(32, 32);
        Feed.section(x, 1, 1, LinkScript.OP_KEEP, 1);
        Feed.stmt(x, LinkScript.OP_OVERLAY, 0, 0);
        Feed.stmt(x, LinkScript.OP_OVERLAY_END, 0, 0);
        Feed.bytes(x, 2, 1, 1, 5);
        Feed.link(x, true);
        Feed.start(x);
        Overlays.ramIs("group without members", x, 5);
    }
}
