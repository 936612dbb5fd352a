public final class Promise04AddByteTest {
    public static void main(String[] args) {
        refusedOutsideFeed();
        needsASectionWithBytes();
        valuesAreCut();
        capacityOverAllSections();
        Check.finish();
    }

    private static void refusedOutsideFeed() {
        LinkScript x = new LinkScript(64, 64);
        Feed.bytes(x, 1, 0, 1, 7);
        Feed.link(x, false);
        Check.due("linked: addByte", x.addByte(1), LinkScript.ERR_STATE);
        Check.due("linked: size", x.inInfo(0, LinkScript.IN_SIZE), 1);
        Feed.info("linked", x, LinkScript.INFO_BYTES, 1);
        Check.due("linked, no section: addByte", Feed.linked().addByte(1), LinkScript.ERR_STATE);
        Check.due("started: addByte", Feed.started().addByte(1), LinkScript.ERR_STATE);
    }

    private static void needsASectionWithBytes() {
        LinkScript x = new LinkScript(64, 64);
        Check.due("no section: addByte", x.addByte(1), LinkScript.ERR_CONTEXT);
        Feed.bytes(x, 2, 0, 1, 1);
        Feed.bss(x, 0, 1, 4);
        Check.due("BSS: addByte", x.addByte(1), LinkScript.ERR_CONTEXT);
        Feed.info("BSS", x, LinkScript.INFO_BYTES, 1);
        Check.due("BSS: size", x.inInfo(1, LinkScript.IN_SIZE), 4);
    }

    private static void valuesAreCut() {
        int[] values = {0, 255, 256, -1, 257, -256, Integer.MIN_VALUE, Integer.MAX_VALUE, 0x1234};
        LinkScript x = new LinkScript(64, 64);
        Feed.section(x, 0, 1, LinkScript.OP_KEEP, -1);
        int s = Feed.bytes(x, 1, 0, 1);
        for (int i = 0; i < values.length; i++) {
            Check.due("addByte(" + values[i] + ")", x.addByte(values[i]), LinkScript.OK);
            Check.due("size", x.inInfo(s, LinkScript.IN_SIZE), i + 1);
            Feed.info("bytes", x, LinkScript.INFO_BYTES, i + 1);
        }
        Feed.bytes(x, 2, 0, 1, 77);
        Feed.link(x, true);
        Feed.rom("cut", x, 0, 0, 255, 0, 255, 1, 0, 0, 255, 0x34, 77, 255);
    }

    private static void capacityOverAllSections() {
        LinkScript x = new LinkScript(128, 128);
        Feed.section(x, 0, 1, LinkScript.OP_INPUT, 0);
        Feed.section(x, 1, 0, LinkScript.OP_INPUT, 1);
        for (int s = 0; s < 4; s++) {
            Feed.bytes(x, 1, s == 3 ? 0 : 2, 1);
            for (int i = 0; i < 64; i++) {
                Check.due("addByte", x.addByte(i + s), LinkScript.OK);
            }
        }
        Check.due("full: addByte", x.addByte(1), LinkScript.ERR_FULL);
        Feed.info("full", x, LinkScript.INFO_BYTES, 256);
        Check.due("full: size", x.inInfo(3, LinkScript.IN_SIZE), 64);
        Feed.bss(x, 1, 1, 128);
        Check.due("full, BSS: addByte", x.addByte(1), LinkScript.ERR_CONTEXT);
        Feed.bytes(x, 2, 2, 1);
        Check.due("full, new section: addByte", x.addByte(1), LinkScript.ERR_FULL);
        Feed.link(x, false);
        for (int i = 0; i < 64; i++) {
            Feed.rom("the last 64 of 256 bytes", x, i, i + 3);
        }
        Feed.rom("behind them", x, 64, 255);
    }
}
