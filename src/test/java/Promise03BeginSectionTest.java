public final class Promise03BeginSectionTest {
    public static void main(String[] args) {
        refusedOutsideFeed();
        argumentsAtTheirEdges();
        wrongArguments();
        bssSizeOfBssAlone();
        capacity();
        refusalKeepsTheCurrentSection();
        Check.finish();
    }

    private static void refused(String when, LinkScript x, int kind, int id, int align, int size, int want) {
        int before = x.info(LinkScript.INFO_INS);
        Check.due(when + ": beginSection(" + kind + ", " + id + ", " + align + ", " + size + ")",
                x.beginSection(kind, id, align, size), want);
        Feed.info(when, x, LinkScript.INFO_INS, before);
    }

    private static void refusedOutsideFeed() {
        refused("linked", Feed.linked(), 1, 0, 1, 0, LinkScript.ERR_STATE);
        refused("linked", Feed.linked(), 0, 0, 1, 0, LinkScript.ERR_STATE);
        refused("started", Feed.started(), 3, 0, 1, 4, LinkScript.ERR_STATE);
    }

    private static void argumentsAtTheirEdges() {
        int[][] right = {{1, 0, 1, 0}, {2, 15, 16, 0}, {3, 7, 2, 0}, {3, 8, 4, 128}, {1, 1, 8, 0}};
        LinkScript x = new LinkScript(64, 64);
        for (int n = 0; n < right.length; n++) {
            int[] r = right[n];
            Check.due("section " + n, x.beginSection(r[0], r[1], r[2], r[3]), n);
            for (int f = 0; f <= LinkScript.IN_SIZE; f++) {
                Check.due("inInfo(" + n + ", " + f + ")", x.inInfo(n, f), r[f]);
            }
        }
    }

    private static void wrongArguments() {
        LinkScript x = new LinkScript(64, 64);
        int[] kinds = {Integer.MIN_VALUE, -1, 0, 4, Integer.MAX_VALUE};
        int[] ids = {Integer.MIN_VALUE, -1, 16, Integer.MAX_VALUE};
        int[] aligns = {Integer.MIN_VALUE, -1, 0, 3, 5, 6, 7, 9, 12, 15, 17, 32, Integer.MAX_VALUE};
        int[] sizes = {Integer.MIN_VALUE, -1, 129, Integer.MAX_VALUE};
        for (int kind : kinds) {
            refused("kind", x, kind, 0, 1, 0, LinkScript.ERR_ARG);
        }
        for (int id : ids) {
            refused("id", x, 1, id, 1, 0, LinkScript.ERR_ARG);
        }
        for (int align : aligns) {
            refused("align", x, 2, 0, align, 0, LinkScript.ERR_ARG);
        }
        for (int size : sizes) {
            refused("bssSize", x, 3, 0, 1, size, LinkScript.ERR_ARG);
        }
    }

    private static void bssSizeOfBssAlone() {
        LinkScript x = new LinkScript(64, 64);
        Check.due("TEXT", x.beginSection(1, 0, 1, 129), 0);
        Check.due("DATA", x.beginSection(2, 0, 1, -1), 1);
        Check.due("TEXT with a fair bssSize", x.beginSection(1, 0, 1, 12), 2);
        for (int s = 0; s < 3; s++) {
            Check.due("size of " + s, x.inInfo(s, LinkScript.IN_SIZE), 0);
        }
    }

    private static void capacity() {
        LinkScript x = new LinkScript(64, 64);
        for (int n = 0; n < LinkScript.MAX_IN; n++) {
            Check.due("section " + n, x.beginSection(1 + n % 3, n, 1, n), n);
        }
        refused("full", x, 1, 0, 1, 0, LinkScript.ERR_FULL);
        refused("full", x, 1, 16, 1, 0, LinkScript.ERR_ARG);
        for (int n = 0; n < LinkScript.MAX_IN; n++) {
            Check.due("id of " + n, x.inInfo(n, LinkScript.IN_ID), n);
        }
    }

    private static void refusalKeepsTheCurrentSection() {
        LinkScript x = new LinkScript(64, 64);
        Feed.bytes(x, 1, 4, 1, 1, 2);
        refused("current", x, 3, 0, 1, 129, LinkScript.ERR_ARG);
        Check.due("addByte goes on", x.addByte(3), LinkScript.OK);
        Check.due("size", x.inInfo(0, LinkScript.IN_SIZE), 3);
        Feed.bss(x, 0, 1, 5);
        refused("current", x, 1, 0, 3, 0, LinkScript.ERR_ARG);
        Check.due("BSS is still current", x.addByte(3), LinkScript.ERR_CONTEXT);
        Feed.bytes(x, 2, 0, 1);
        Check.due("a new section is empty", x.inInfo(2, LinkScript.IN_SIZE), 0);
        Check.due("the old section is as it was", x.inInfo(0, LinkScript.IN_SIZE), 3);
    }
}
