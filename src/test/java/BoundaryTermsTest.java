/** The boundaries of the shared terms: address space, phases and align. */
public final class BoundaryTermsTest {
    private static final int[] SIZES = {16, 17, 63, 127, 128};
    private static final int[] ALIGNS = {1, 2, 4, 8, 16};

    public static void main(String[] args) {
        romEndsBeforeRomBasePlusRomSize();
        ramEndsBeforeRamBasePlusRamSize();
        byteAnswersAre0To255();
        feedingAndLinkWriteNoRam();
        onlyLinkWritesRom();
        onlyLinkLeadsOutOfFeed();
        onlyStartupLeadsOutOfLinked();
        nothingLeadsOutOfStarted();
        alignIsTheLeastMultipleOutsideSections();
        alignIsTheLeastMultipleInsideSections();
        alignIsTheLeastMultipleForSections();
        countersGoFarBeyondTheirRegions();
        Check.finish();
    }

    private static void romEndsBeforeRomBasePlusRomSize() {
        for (int size : SIZES) {
            LinkScript x = new LinkScript(size, 16);
            Feed.link(x, false);
            Feed.rom("ROM of " + size, x, -1, -1, 255);
            Feed.rom("ROM of " + size, x, size - 1, 255, -1);
            Feed.run("ROM of " + size, x, -1, -1, 255);
            Feed.run("ROM of " + size, x, size - 1, 255, -1);
        }
    }

    private static void ramEndsBeforeRamBasePlusRamSize() {
        for (int size : SIZES) {
            LinkScript x = new LinkScript(16, size);
            Feed.ram("RAM of " + size, x, 255, -1, 255);
            Feed.ram("RAM of " + size, x, 256 + size - 1, 255, -1);
            Feed.link(x, false);
            Feed.run("RAM of " + size, x, 255, -1, 255);
            Feed.run("RAM of " + size, x, 256 + size - 1, 255, -1);
        }
    }

    private static void byteAnswersAre0To255() {
        LinkScript x = new LinkScript(32, 32);
        Feed.section(x, LinkScript.REGION_RAM, 1, LinkScript.OP_KEEP, -1);
        Feed.bytes(x, LinkScript.KIND_DATA, 0, 1, -1, -128, -129, 128, 256, 511, Integer.MIN_VALUE,
                Integer.MAX_VALUE, 0, 0, 0, 0);
        Feed.reloc(x, 8, LinkScript.R_PC16, 0, -256);
        Feed.reloc(x, 10, LinkScript.R_ABS16, 0, 255);
        Feed.link(x, true);
        Feed.start(x);
        int[] bytes = {255, 128, 127, 128, 0, 255, 0, 255, 248, 254, 255, 1, 255};
        Feed.rom("cut to a byte", x, 0, bytes);
        Feed.ram("cut to a byte", x, 256, bytes);
        Feed.run("cut to a byte", x, 256, bytes);
    }

    private static void ramIsBlank(String when, LinkScript x) {
        for (int addr = 256; addr < 256 + x.info(LinkScript.INFO_RAM_SIZE); addr++) {
            Feed.ram(when, x, addr, 255);
        }
    }

    private static void feedingAndLinkWriteNoRam() {
        LinkScript x = new LinkScript(32, 32);
        Feed.openGroup(x);
        Feed.section(x, LinkScript.REGION_RAM, 1, LinkScript.OP_KEEP, 0);
        Feed.endGroup(x);
        Feed.section(x, LinkScript.REGION_RAM, 0, LinkScript.OP_KEEP, 1);
        Feed.section(x, LinkScript.REGION_RAM, 1, LinkScript.OP_INPUT, 2);
        Feed.bytes(x, LinkScript.KIND_DATA, 0, 1, 1, 2);
        Feed.bss(x, 1, 1, 3);
        Feed.bss(x, 2, 1, 99);
        ramIsBlank("fed", x);
        Check.due("too large", x.link(false), LinkScript.ERR_OVERFLOW);
        ramIsBlank("refused", x);
        Feed.link(x, true);
        ramIsBlank("linked", x);
        Check.due("not started", x.loadOverlay(0), LinkScript.ERR_STATE);
        ramIsBlank("loadOverlay refused", x);
    }

    private static void onlyLinkWritesRom() {
        LinkScript x = Overlays.linked();
        Overlays.romIs("linked", x);
        Feed.start(x);
        Overlays.romIs("started", x);
        int[] members = {3, 6, 7, 2, 5};
        for (int k : members) {
            Feed.load(x, k);
            Overlays.romIs("loaded " + k, x);
            for (int addr = 14; addr < 64; addr++) {
                Feed.rom("loaded " + k, x, addr, 255);
            }
        }
    }

    private static void phaseIs(String when, LinkScript x, int phase) {
        Feed.info(when, x, LinkScript.INFO_PHASE, phase);
    }

    private static void feedAll(LinkScript x) {
        x.script(LinkScript.OP_SECTION, 1, 1);
        x.script(LinkScript.OP_END, 0, 0);
        x.beginSection(LinkScript.KIND_DATA, 0, 1, 0);
        x.addByte(1);
        x.addByte(2);
        x.addReloc(0, LinkScript.R_ABS16, 0, 0);
    }

    private static void onlyLinkLeadsOutOfFeed() {
        LinkScript x = new LinkScript(32, 32);
        feedAll(x);
        x.startup();
        x.loadOverlay(0);
        phaseIs("all but link", x, LinkScript.PHASE_FEED);
        Feed.link(x, false);
        phaseIs("link", x, LinkScript.PHASE_LINKED);
    }

    private static void onlyStartupLeadsOutOfLinked() {
        LinkScript x = Overlays.linked();
        feedAll(x);
        x.link(false);
        x.link(true);
        x.loadOverlay(3);
        phaseIs("all but startup", x, LinkScript.PHASE_LINKED);
        Feed.start(x);
        phaseIs("startup", x, LinkScript.PHASE_STARTED);
    }

    private static void nothingLeadsOutOfStarted() {
        LinkScript x = Overlays.started();
        feedAll(x);
        x.link(false);
        x.startup();
        x.loadOverlay(3);
        x.loadOverlay(99);
        phaseIs("every call", x, LinkScript.PHASE_STARTED);
    }

    private static int leastMultiple(int from, int m) {
        int v = from;
        while (v % m != 0) {
            v++;
        }
        return v;
    }

    private static void alignIsTheLeastMultipleOutsideSections() {
        for (int m : ALIGNS) {
            for (int n = 0; n <= 33; n++) {
                LinkScript x = new LinkScript(128, 128);
                Feed.stmt(x, LinkScript.OP_DOT_ADD, n, 0);
                Feed.stmt(x, LinkScript.OP_DOT_ALIGN, m, 0);
                Feed.stmt(x, LinkScript.OP_DOT_ADD, n, 1);
                Feed.stmt(x, LinkScript.OP_DOT_ALIGN, m, 1);
                Feed.link(x, false);
                String when = "align(" + n + ", " + m + ")";
                Feed.info(when, x, LinkScript.INFO_ROM_COUNTER, leastMultiple(n, m));
                Feed.info(when, x, LinkScript.INFO_RAM_COUNTER, leastMultiple(256 + n, m));
            }
        }
    }

    private static void alignIsTheLeastMultipleInsideSections() {
        for (int m : ALIGNS) {
            for (int n = 0; n <= 33; n++) {
                LinkScript x = new LinkScript(128, 128);
                Feed.stmt(x, LinkScript.OP_DOT_ADD, 3, 0);
                Feed.open(x, 0, 1);
                Feed.stmt(x, LinkScript.OP_DOT_ADD, n, 0);
                Feed.stmt(x, LinkScript.OP_DOT_ALIGN, m, 0);
                Feed.end(x);
                Feed.link(x, false);
                // The address is a multiple, not the offset in the section.
                Feed.out("align(" + (3 + n) + ", " + m + ")", x, 0, 3, 3, leastMultiple(3 + n, m) - 3);
            }
        }
    }

    private static void alignIsTheLeastMultipleForSections() {
        for (int m : ALIGNS) {
            for (int n = 0; n <= 33; n++) {
                LinkScript x = new LinkScript(128, 128);
                Feed.stmt(x, LinkScript.OP_DOT_ADD, n, 1);
                Feed.stmt(x, LinkScript.OP_DOT_ADD, 33 - n, 0);
                Feed.section(x, 1, 1, LinkScript.OP_KEEP, 0);
                Feed.bytes(x, LinkScript.KIND_DATA, 0, m, 1);
                Feed.link(x, false);
                int vma = leastMultiple(256 + n, m);
                int lma = leastMultiple(33 - n, m);
                Feed.out("section of align " + m, x, 0, vma, lma, 1, 1, 1, -1, 0, m);
                Feed.in("section of align " + m, x, 0, 3, 1, 0, vma, lma);
            }
        }
    }

    private static void countersGoFarBeyondTheirRegions() {
        LinkScript x = new LinkScript(16, 16);
        for (int i = 0; i < LinkScript.MAX_STMTS / 2; i++) {
            Feed.stmt(x, LinkScript.OP_DOT_ADD, 255, 0);
            Feed.stmt(x, LinkScript.OP_DOT_ADD, 255, 1);
        }
        Feed.link(x, false);
        Feed.info("no section there", x, LinkScript.INFO_ROM_COUNTER, 16 * 255);
        Feed.info("no section there", x, LinkScript.INFO_RAM_COUNTER, 256 + 16 * 255);
    }
}
