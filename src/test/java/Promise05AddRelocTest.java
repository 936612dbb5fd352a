public final class Promise05AddRelocTest {
    public static void main(String[] args) {
        refusedOutsideFeed();
        needsASectionWithBytes();
        offsetFollowsTheSize();
        wrongArguments();
        edgesAreTaken();
        capacityOverAllSections();
        targetMayBeFedLater();
        feedingOrderIsKept();
        Check.finish();
    }

    private static void refused(String when, LinkScript x, int offset, int type, int target, int addend,
            int want) {
        int before = x.info(LinkScript.INFO_RELOCS);
        Check.due(when + ": addReloc(" + offset + ", " + type + ", " + target + ", " + addend + ")",
                x.addReloc(offset, type, target, addend), want);
        Feed.info(when, x, LinkScript.INFO_RELOCS, before);
    }

    private static void refusedOutsideFeed() {
        LinkScript x = new LinkScript(64, 64);
        Feed.bytes(x, 1, 0, 1, 7, 8);
        Feed.link(x, false);
        refused("linked", x, 0, 1, 0, 0, LinkScript.ERR_STATE);
        refused("linked, no section", Feed.linked(), 0, 1, 0, 0, LinkScript.ERR_STATE);
        refused("started", Feed.started(), 9, 9, 99, 999, LinkScript.ERR_STATE);
    }

    private static void needsASectionWithBytes() {
        LinkScript x = new LinkScript(64, 64);
        refused("no section", x, 0, 1, 0, 0, LinkScript.ERR_CONTEXT);
        refused("no section", x, 0, 0, 0, 0, LinkScript.ERR_CONTEXT);
        Feed.bytes(x, 1, 0, 1, 1, 2);
        Feed.bss(x, 0, 1, 8);
        refused("BSS", x, 0, 1, 0, 0, LinkScript.ERR_CONTEXT);
        refused("BSS", x, -1, 1, 0, 0, LinkScript.ERR_CONTEXT);
    }

    private static void offsetFollowsTheSize() {
        LinkScript x = new LinkScript(64, 64);
        Feed.bytes(x, 1, 0, 1);
        refused("size 0", x, 0, 1, 0, 0, LinkScript.ERR_ARG);
        refused("size 0", x, -2, 1, 0, 0, LinkScript.ERR_ARG);
        x.addByte(1);
        refused("size 1", x, 0, 1, 0, 0, LinkScript.ERR_ARG);
        refused("size 1", x, -1, 1, 0, 0, LinkScript.ERR_ARG);
        x.addByte(1);
        Feed.reloc(x, 0, 1, 0, 0);
        refused("size 2", x, 1, 1, 0, 0, LinkScript.ERR_ARG);
        x.addByte(1);
        Feed.reloc(x, 1, 1, 0, 0);
        refused("size 3", x, 2, 1, 0, 0, LinkScript.ERR_ARG);
        Feed.bytes(x, 2, 0, 1, 1);
        refused("the size of the current section", x, 0, 1, 0, 0, LinkScript.ERR_ARG);
        refused("size 1", x, Integer.MAX_VALUE, 1, 0, 0, LinkScript.ERR_ARG);
        refused("size 1", x, Integer.MIN_VALUE, 1, 0, 0, LinkScript.ERR_ARG);
    }

    private static void wrongArguments() {
        LinkScript x = new LinkScript(64, 64);
        Feed.bytes(x, 1, 0, 1, 1, 2, 3);
        int[] types = {Integer.MIN_VALUE, -1, 0, 4, Integer.MAX_VALUE};
        int[] targets = {Integer.MIN_VALUE, -1, 16, Integer.MAX_VALUE};
        int[] addends = {Integer.MIN_VALUE, -257, 256, Integer.MAX_VALUE};
        for (int type : types) {
            refused("type", x, 0, type, 0, 0, LinkScript.ERR_ARG);
        }
        for (int target : targets) {
            refused("target", x, 0, 1, target, 0, LinkScript.ERR_ARG);
        }
        for (int addend : addends) {
            refused("addend", x, 0, 1, 0, addend, LinkScript.ERR_ARG);
        }
    }

    private static void edgesAreTaken() {
        LinkScript x = new LinkScript(64, 64);
        Feed.bytes(x, 2, 0, 1, 1, 2, 3);
        Feed.reloc(x, 0, 1, 0, -256);
        Feed.reloc(x, 1, 3, 15, 255);
        Feed.reloc(x, 0, 2, 7, 0);
        Feed.info("edges", x, LinkScript.INFO_RELOCS, 3);
    }

    private static void capacityOverAllSections() {
        LinkScript x = new LinkScript(64, 64);
        Feed.section(x, 0, 1, LinkScript.OP_KEEP, -1);
        for (int s = 0; s < 2; s++) {
            Feed.bytes(x, 1, 0, 1, 1, 2);
            for (int i = 0; i < 16; i++) {
                Feed.reloc(x, 0, 1, s, i);
            }
        }
        refused("full", x, 0, 1, 0, 0, LinkScript.ERR_FULL);
        refused("full", x, 1, 1, 0, 0, LinkScript.ERR_ARG);
        Feed.info("full", x, LinkScript.INFO_RELOCS, 32);
        Feed.bytes(x, 1, 0, 1, 9, 9);
        refused("full, new section", x, 0, 1, 0, 0, LinkScript.ERR_FULL);
        Feed.link(x, false);
        Feed.rom("the last relocation counts", x, 0, 15, 0, 17, 0, 9, 9);
    }

    private static void targetMayBeFedLater() {
        LinkScript x = new LinkScript(64, 64);
        Feed.section(x, 0, 1, LinkScript.OP_KEEP, -1);
        Feed.bytes(x, 1, 0, 1, 1, 2);
        Feed.reloc(x, 0, 1, 1, 0);
        Check.due("target not fed: link", x.link(false), LinkScript.ERR_UNDEF);
        Feed.bytes(x, 1, 0, 1, 3);
        Feed.link(x, false);
        Feed.rom("target fed", x, 0, 2, 0, 3);
    }

    private static void feedingOrderIsKept() {
        LinkScript x = new LinkScript(64, 64);
        Feed.section(x, 0, 1, LinkScript.OP_KEEP, -1);
        Feed.bytes(x, 1, 0, 1, 1, 2, 3, 4);
        Feed.reloc(x, 1, 1, 0, 0x55);
        Feed.reloc(x, 2, 1, 0, 0x66);
        Feed.reloc(x, 0, 1, 0, -1);
        Feed.link(x, false);
        Feed.rom("a later relocation overwrites", x, 0, 255, 255, 0x66, 0);
    }
}
