public final class Promise08LoadOverlayTest {
    public static void main(String[] args) {
        onlyWhenStarted();
        onlyMembers();
        swaps();
        leavesTheRest();
        fourGroups();
        Check.finish();
    }

    private static void onlyWhenStarted() {
        LinkScript feed = new LinkScript(64, 64);
        Check.due("feed: loadOverlay", feed.loadOverlay(0), LinkScript.ERR_STATE);
        LinkScript x = Overlays.linked();
        Check.due("linked: loadOverlay", x.loadOverlay(3), LinkScript.ERR_STATE);
        Check.due("linked: loadOverlay", x.loadOverlay(-1), LinkScript.ERR_STATE);
        Overlays.residentsAre("linked", x, 2, 5, 7);
        Feed.ram("linked", x, 260, 255, 255, 255, 255);
    }

    private static void onlyMembers() {
        LinkScript x = Overlays.started();
        int[] none = {Integer.MIN_VALUE, -1, 0, 1, 4, 8, 9, Integer.MAX_VALUE};
        for (int k : none) {
            Check.due("loadOverlay(" + k + ")", x.loadOverlay(k), LinkScript.ERR_ARG);
        }
        Overlays.residentsAre("refused", x, 2, 5, 7);
        Overlays.ramIs("refused", x,
                11, 12, 255, 255, 21, 22, 23, 24, 0, 0, 0, 51, 52, 0, 0, 0, 0);
        LinkScript nothing = Feed.started();
        Check.due("no sections: loadOverlay(0)", nothing.loadOverlay(0), LinkScript.ERR_ARG);
    }

    private static void swaps() {
        LinkScript x = Overlays.started();
        Feed.load(x, 3);
        Overlays.residentsAre("3", x, 3, 5, 7);
        Overlays.ramIs("3", x, 11, 12, 255, 255, 31, 32, 0, 0, 0, 0, 0, 51, 52, 0, 0, 0, 0);
        Feed.load(x, 6);
        Overlays.residentsAre("6", x, 3, 6, 7);
        Overlays.ramIs("6", x, 11, 12, 255, 255, 31, 32, 0, 0, 0, 0, 0, 0, 0, 0, 0, 0, 0);
        Feed.load(x, 3);
        Feed.load(x, 7);
        Overlays.residentsAre("again", x, 3, 6, 7);
        Overlays.ramIs("again", x, 11, 12, 255, 255, 31, 32, 0, 0, 0, 0, 0, 0, 0, 0, 0, 0, 0);
        Feed.load(x, 2);
        Feed.load(x, 5);
        Overlays.residentsAre("back", x, 2, 5, 7);
        Overlays.ramIs("back", x, 11, 12, 255, 255, 21, 22, 23, 24, 0, 0, 0, 51, 52, 0, 0, 0, 0);
    }

    private static void leavesTheRest() {
        LinkScript x = Overlays.started();
        Feed.load(x, 3);
        Feed.load(x, 6);
        Overlays.romIs("loaded", x);
        Feed.info("loaded", x, LinkScript.INFO_PHASE, LinkScript.PHASE_STARTED);
        Feed.info("loaded", x, LinkScript.INFO_ROM_COUNTER, 14);
        Feed.info("loaded", x, LinkScript.INFO_RAM_COUNTER, 273);
        Feed.out("loaded", x, 2, 260, 5, 4, 1, 1, 0, 0, 1, 260, 264);
        Feed.out("loaded", x, 3, 260, 10, 2, 1, 1, 0, 1, 2, 260, 264);
    }

    private static void fourGroups() {
        LinkScript x = new LinkScript(32, 32);
        for (int g = 0; g < LinkScript.MAX_GROUPS; g++) {
            Feed.stmt(x, LinkScript.OP_OVERLAY, 0, 0);
            Feed.open(x, 1, 1);
            Feed.stmt(x, LinkScript.OP_KEEP, g, 0);
            Feed.stmt(x, LinkScript.OP_DOT_ADD, 1, 0);
            Feed.end(x);
            Feed.stmt(x, LinkScript.OP_OVERLAY_END, 0, 0);
            Feed.bytes(x, LinkScript.KIND_DATA, g, 1, 70 + g);
        }
        Feed.link(x, true);
        Feed.start(x);
        for (int k = 0; k < LinkScript.MAX_GROUPS; k++) {
            Feed.load(x, k);
            Overlays.ramIs("four groups", x, 70, 0, 71, 0, 72, 0, 73, 0);
        }
    }
}
