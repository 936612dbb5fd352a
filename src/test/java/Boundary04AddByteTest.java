/** Promise 4: each sentence that names a boundary. */
public final class Boundary04AddByteTest {
    private static final int TEXT = LinkScript.KIND_TEXT;
    private static final int DATA = LinkScript.KIND_DATA;

    public static void main(String[] args) {
        minus1Gives255And256Gives0();
        condition1PhaseNotFeed();
        condition2NoCurrentSection();
        condition2CurrentSectionIsBss();
        condition2BeforeFull();
        byte256IsTheLastInOneSection();
        byte256IsTheLastInAllSectionsTogether();
        bssTakesNoneOfTheBytes();
        sizeGrowsByOne();
        bytesOfASectionStayApart();
        Check.finish();
    }

    private static void minus1Gives255And256Gives0() {
        int[] values = {-1, 256, 0, 255, 257, -255, -256, -257, 511, 512, 65535, 65536,
            Integer.MIN_VALUE, Integer.MAX_VALUE};
        int[] kept = {255, 0, 0, 255, 1, 1, 0, 255, 255, 0, 255, 0, 0, 255};
        LinkScript x = new LinkScript(32, 32);
        Feed.section(x, LinkScript.REGION_ROM, 1, LinkScript.OP_KEEP, 0);
        Feed.bytes(x, TEXT, 0, 1, values);
        Feed.link(x, true);
        Feed.rom("value & 255", x, 0, kept);
    }

    private static void condition1PhaseNotFeed() {
        LinkScript[] objects = {Feed.linked(), Feed.started(), Overlays.linked(), Overlays.started()};
        for (LinkScript x : objects) {
            int before = x.info(LinkScript.INFO_BYTES);
            Check.due("not FEED: addByte", x.addByte(1), LinkScript.ERR_STATE);
            Feed.info("not FEED", x, LinkScript.INFO_BYTES, before);
        }
        LinkScript full = new LinkScript(128, 128);
        Feed.filled(full, DATA, 0, 1, 256, 1);
        Feed.link(full, false);
        Check.due("not FEED, 256 bytes: addByte", full.addByte(1), LinkScript.ERR_STATE);
        Check.due("size", full.inInfo(0, LinkScript.IN_SIZE), 256);
    }

    private static void condition2NoCurrentSection() {
        LinkScript x = new LinkScript(64, 64);
        Check.due("nothing fed: addByte", x.addByte(0), LinkScript.ERR_CONTEXT);
        Feed.section(x, LinkScript.REGION_ROM, 1, LinkScript.OP_KEEP, 0);
        Check.due("an output section alone: addByte", x.addByte(0), LinkScript.ERR_CONTEXT);
        Feed.info("refused", x, LinkScript.INFO_BYTES, 0);
    }

    private static void condition2CurrentSectionIsBss() {
        LinkScript x = new LinkScript(64, 64);
        Feed.bytes(x, DATA, 0, 1, 1);
        Feed.bss(x, 0, 1, 0);
        Check.due("BSS of 0: addByte", x.addByte(1), LinkScript.ERR_CONTEXT);
        Feed.bss(x, 0, 1, 128);
        Check.due("BSS of 128: addByte", x.addByte(1), LinkScript.ERR_CONTEXT);
        Check.due("size", x.inInfo(0, LinkScript.IN_SIZE), 1);
        Check.due("size", x.inInfo(1, LinkScript.IN_SIZE), 0);
        Check.due("size", x.inInfo(2, LinkScript.IN_SIZE), 128);
        Feed.info("refused", x, LinkScript.INFO_BYTES, 1);
    }

    private static void condition2BeforeFull() {
        LinkScript x = new LinkScript(64, 64);
        Feed.filled(x, DATA, 0, 1, 256, 1);
        Feed.bss(x, 0, 1, 4);
        Check.due("256 bytes, BSS: addByte", x.addByte(1), LinkScript.ERR_CONTEXT);
    }

    private static void byte256IsTheLastInOneSection() {
        LinkScript x = new LinkScript(64, 64);
        Feed.filled(x, TEXT, 0, 1, 255, 3);
        Check.due("byte 256", x.addByte(1), LinkScript.OK);
        Check.due("byte 257", x.addByte(1), LinkScript.ERR_FULL);
        Check.due("size", x.inInfo(0, LinkScript.IN_SIZE), 256);
        Feed.info("full", x, LinkScript.INFO_BYTES, 256);
    }

    private static void byte256IsTheLastInAllSectionsTogether() {
        LinkScript x = new LinkScript(64, 64);
        Feed.section(x, LinkScript.REGION_ROM, 1, LinkScript.OP_KEEP, 1);
        Feed.filled(x, TEXT, 0, 1, 200, 3);
        Feed.filled(x, DATA, 0, 1, 55, 4);
        Feed.bytes(x, TEXT, 1, 1, 99);
        Check.due("byte 257", x.addByte(1), LinkScript.ERR_FULL);
        Feed.bytes(x, DATA, 1, 1);
        Check.due("byte 257 in a new section", x.addByte(1), LinkScript.ERR_FULL);
        Check.due("size", x.inInfo(3, LinkScript.IN_SIZE), 0);
        Feed.info("full", x, LinkScript.INFO_BYTES, 256);
        Feed.link(x, true);
        Feed.rom("byte 256", x, 0, 99, 255);
    }

    private static void bssTakesNoneOfTheBytes() {
        LinkScript x = new LinkScript(64, 64);
        Feed.bss(x, 0, 1, 128);
        Feed.bss(x, 0, 1, 128);
        Feed.bss(x, 0, 1, 128);
        Feed.filled(x, DATA, 0, 1, 256, 1);
        Feed.info("full", x, LinkScript.INFO_BYTES, 256);
    }

    private static void sizeGrowsByOne() {
        LinkScript x = new LinkScript(64, 64);
        Feed.bytes(x, DATA, 0, 1);
        for (int size = 1; size <= 256; size++) {
            Check.due("addByte", x.addByte(size), LinkScript.OK);
            Check.due("size", x.inInfo(0, LinkScript.IN_SIZE), size);
            Feed.info("bytes", x, LinkScript.INFO_BYTES, size);
        }
    }

    private static void bytesOfASectionStayApart() {
        LinkScript x = new LinkScript(64, 64);
        Feed.section(x, LinkScript.REGION_ROM, 1, LinkScript.OP_KEEP, -1);
        Feed.bytes(x, TEXT, 0, 4, 1, 2);
        Feed.bytes(x, TEXT, 0, 4);
        Feed.bytes(x, TEXT, 0, 4, 3);
        Feed.link(x, true);
        Feed.rom("an empty section between", x, 0, 1, 2, 0, 0, 3, 255);
    }
}
