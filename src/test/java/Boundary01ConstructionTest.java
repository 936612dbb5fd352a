/** Promise 1: each sentence that names a boundary. */
public final class Boundary01ConstructionTest {
    private static final int[] BELOW = {Integer.MIN_VALUE, Integer.MIN_VALUE + 1, -256, -128, -16, -1, 0, 1, 15};
    private static final int[] WITHIN = {16, 17, 64, 127, 128};
    private static final int[] ABOVE = {129, 130, 256, 384, 65536, Integer.MAX_VALUE - 1, Integer.MAX_VALUE};

    public static void main(String[] args) {
        below16Becomes16();
        above128Becomes128();
        withinTheBoundsIsKept();
        eachSizeIsClampedForItself();
        newObjectIsInFeed();
        noStatementsSectionsGroupsBytesOrRelocations();
        everyRamByteIs255();
        noCurrentSection();
        nothingFedLinksAndStarts();
        Check.finish();
    }

    private static void becomes(int given, int kept) {
        romIs(new LinkScript(given, 50), given, kept);
        ramIs(new LinkScript(50, given), given, kept);
    }

    private static void romIs(LinkScript x, int given, int size) {
        String when = "romSize " + given;
        Feed.info(when, x, LinkScript.INFO_ROM_SIZE, size);
        Feed.link(x, false);
        Feed.rom(when, x, size - 1, 255, -1);
    }

    private static void ramIs(LinkScript x, int given, int size) {
        String when = "ramSize " + given;
        Feed.info(when, x, LinkScript.INFO_RAM_SIZE, size);
        Feed.ram(when, x, 256 + size - 1, 255, -1);
    }

    private static void below16Becomes16() {
        for (int given : BELOW) {
            becomes(given, 16);
        }
    }

    private static void above128Becomes128() {
        for (int given : ABOVE) {
            becomes(given, 128);
        }
    }

    private static void withinTheBoundsIsKept() {
        for (int given : WITHIN) {
            becomes(given, given);
        }
    }

    private static void eachSizeIsClampedForItself() {
        LinkScript x = new LinkScript(15, 129);
        ramIs(x, 129, 128);
        romIs(x, 15, 16);
        LinkScript y = new LinkScript(Integer.MAX_VALUE, Integer.MIN_VALUE);
        ramIs(y, Integer.MIN_VALUE, 16);
        romIs(y, Integer.MAX_VALUE, 128);
    }

    private static void newObjectIsInFeed() {
        LinkScript x = new LinkScript(64, 64);
        Feed.info("new", x, LinkScript.INFO_PHASE, LinkScript.PHASE_FEED);
        Check.due("new: startup", x.startup(), LinkScript.ERR_STATE);
        Check.due("new: loadOverlay", x.loadOverlay(0), LinkScript.ERR_STATE);
        Feed.open(x, 0, 1);
        Check.due("new: beginSection", x.beginSection(1, 0, 1, 0), 0);
    }

    private static void noStatementsSectionsGroupsBytesOrRelocations() {
        LinkScript x = new LinkScript(64, 64);
        int[] counts = {LinkScript.INFO_STMTS, LinkScript.INFO_OUTS, LinkScript.INFO_GROUPS,
            LinkScript.INFO_INS, LinkScript.INFO_BYTES, LinkScript.INFO_RELOCS};
        for (int field : counts) {
            Feed.info("new", x, field, 0);
        }
        for (int field = 0; field <= LinkScript.IN_LMA; field++) {
            Check.due("new: inInfo(0, " + field + ")", x.inInfo(0, field), -1);
        }
        Check.due("nothing is open", x.script(LinkScript.OP_END, 0, 0), LinkScript.ERR_CONTEXT);
        Check.due("nothing is open", x.script(LinkScript.OP_OVERLAY_END, 0, 0), LinkScript.ERR_CONTEXT);
    }

    private static void everyRamByteIs255() {
        for (int size = 16; size <= 128; size++) {
            LinkScript x = new LinkScript(16, size);
            for (int i = 0; i < size; i++) {
                Feed.ram("RAM of " + size, x, 256 + i, 255);
            }
        }
    }

    private static void noCurrentSection() {
        LinkScript x = new LinkScript(64, 64);
        Check.due("addByte", x.addByte(0), LinkScript.ERR_CONTEXT);
        Check.due("addReloc", x.addReloc(0, LinkScript.R_ABS16, 0, 0), LinkScript.ERR_CONTEXT);
        // A refused section is no current one either.
        Check.due("beginSection", x.beginSection(1, 16, 1, 0), LinkScript.ERR_ARG);
        Check.due("addByte", x.addByte(0), LinkScript.ERR_CONTEXT);
    }

    private static void nothingFedLinksAndStarts() {
        LinkScript x = new LinkScript(20, 30);
        Feed.link(x, true);
        Feed.info("nothing fed", x, LinkScript.INFO_ROM_COUNTER, 0);
        Feed.info("nothing fed", x, LinkScript.INFO_RAM_COUNTER, 256);
        Feed.start(x);
        for (int i = 0; i < 20; i++) {
            Feed.rom("nothing fed", x, i, 255);
        }
        for (int i = 0; i < 30; i++) {
            Feed.ram("nothing fed", x, 256 + i, 255);
            Feed.run("nothing fed", x, 256 + i, 255);
        }
        Check.due("nothing fed: loadOverlay", x.loadOverlay(0), LinkScript.ERR_ARG);
    }
}
