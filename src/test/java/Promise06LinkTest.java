public final class Promise06LinkTest {
    private static final int ROM = LinkScript.REGION_ROM;
    private static final int RAM = LinkScript.REGION_RAM;
    private static final int INPUT = LinkScript.OP_INPUT;
    private static final int KEEP = LinkScript.OP_KEEP;
    private static final int SET = LinkScript.OP_DOT_SET;
    private static final int ADD = LinkScript.OP_DOT_ADD;
    private static final int ALIGN = LinkScript.OP_DOT_ALIGN;

    public static void main(String[] args) {
        onlyInFeed();
        openSectionOrGroup();
        lowestStatementTakes();
        collection();
        longChainsStayLive();
        undefinedTargets();
        bytesInNoload();
        conditionOrder();
        countersOutsideSections();
        dotInsideSections();
        backwardSets();
        alignment();
        loadAddresses();
        overlays();
        overflowEdges();
        relocationValues();
        imagesAndGaps();
        refusalLeavesEverything();
        refusalLeavesNoCounter();
        fullScript();
        Check.finish();
    }

    private static void refused(String when, LinkScript x, boolean gc, int want) {
        Check.due(when + ": link(" + gc + ")", x.link(gc), want);
        Feed.info(when, x, LinkScript.INFO_PHASE, LinkScript.PHASE_FEED);
        Feed.info(when, x, LinkScript.INFO_ROM_COUNTER, -1);
        Feed.info(when, x, LinkScript.INFO_RAM_COUNTER, -1);
    }

    private static void onlyInFeed() {
        LinkScript x = Feed.linked();
        Check.due("linked: link", x.link(false), LinkScript.ERR_STATE);
        Feed.info("linked", x, LinkScript.INFO_PHASE, LinkScript.PHASE_LINKED);
        LinkScript y = Feed.started();
        Check.due("started: link", y.link(true), LinkScript.ERR_STATE);
        Feed.info("started", y, LinkScript.INFO_PHASE, LinkScript.PHASE_STARTED);
    }

    private static void openSectionOrGroup() {
        LinkScript x = new LinkScript(64, 64);
        Feed.stmt(x, LinkScript.OP_OVERLAY, 0, 0);
        refused("open group", x, false, LinkScript.ERR_SCRIPT);
        Feed.open(x, RAM, 1);
        refused("open section in a group", x, false, LinkScript.ERR_SCRIPT);
        Feed.end(x);
        refused("open group", x, true, LinkScript.ERR_SCRIPT);
        Feed.stmt(x, LinkScript.OP_OVERLAY_END, 0, 0);
        Feed.open(x, ROM, 1);
        refused("open section", x, false, LinkScript.ERR_SCRIPT);
        Feed.end(x);
        Feed.link(x, false);
        Feed.info("closed", x, LinkScript.INFO_PHASE, LinkScript.PHASE_LINKED);
    }

    private static void lowestStatementTakes() {
        LinkScript x = new LinkScript(64, 64);
        Feed.open(x, ROM, 1);
        Feed.stmt(x, INPUT, 3, LinkScript.KIND_TEXT);
        Feed.stmt(x, INPUT, 3, 0);
        Feed.stmt(x, KEEP, -1, LinkScript.KIND_TEXT);
        Feed.end(x);
        Feed.open(x, RAM, 1);
        Feed.stmt(x, KEEP, 3, 0);
        Feed.stmt(x, INPUT, 5, LinkScript.KIND_BSS);
        Feed.end(x);
        Feed.bytes(x, 1, 3, 1, 1);
        Feed.bytes(x, 2, 3, 1, 2);
        Feed.bytes(x, 1, 4, 1, 3);
        Feed.bytes(x, 2, 5, 1, 4);
        Feed.bss(x, 5, 1, 3);
        Feed.bss(x, 3, 1, 1);
        Feed.link(x, false);
        Feed.in("id and kind", x, 0, 1, 1, 0, 0, 0);
        Feed.in("id alone", x, 1, 2, 1, 0, 1, 1);
        Feed.in("kind alone", x, 2, 3, 1, 0, 3, 3);
        Feed.in("unassigned", x, 3, -1, 0, -1, -1, -1);
        Feed.in("second section", x, 4, 7, 1, 1, 256, 4);
        Feed.in("by index within a statement", x, 5, 2, 1, 0, 2, 2);
        Feed.rom("BSS in ROM is zero", x, 0, 1, 2, 0, 3, 0, 0, 0, 255);
    }

    private static LinkScript forCollection() {
        LinkScript x = new LinkScript(64, 64);
        Feed.open(x, ROM, 1);
        Feed.stmt(x, KEEP, 1, 0);
        Feed.stmt(x, INPUT, 2, 0);
        Feed.end(x);
        // The later section of id 2 is reached from the root, the earlier not.
        Feed.bytes(x, 1, 2, 1, 10);
        Feed.bytes(x, 1, 2, 1, 11, 12);
        Feed.bytes(x, 1, 1, 1, 13, 14);
        Feed.reloc(x, 0, LinkScript.R_ABS16, 1, 0);
        Feed.bytes(x, 2, 9, 1, 15, 16);
        Feed.reloc(x, 0, LinkScript.R_ABS16, 0, 0);
        Feed.bytes(x, 2, 9, 1, 15, 16);
        Feed.reloc(x, 0, LinkScript.R_ABS16, 15, 0);
        return x;
    }

    private static void collection() {
        LinkScript on = forCollection();
        Feed.link(on, true);
        Feed.in("not reached", on, 0, 2, 0, -1, -1, -1);
        Feed.in("reached", on, 1, 2, 1, 0, 2, 2);
        Feed.in("root", on, 2, 1, 1, 0, 0, 0);
        Feed.in("unassigned", on, 3, -1, 0, -1, -1, -1);
        Feed.out("collected", on, 0, 0, 0, 4);
        Feed.rom("collected", on, 0, 2, 0, 11, 12, 255);
        LinkScript off = forCollection();
        Feed.link(off, false);
        Feed.in("kept", off, 0, 2, 1, 0, 2, 2);
        Feed.in("kept", off, 1, 2, 1, 0, 3, 3);
        Feed.in("unassigned", off, 3, -1, 0, -1, -1, -1);
        Feed.out("not collected", off, 0, 0, 0, 5);
        LinkScript none = new LinkScript(64, 64);
        Feed.section(none, ROM, 1, INPUT, -1);
        Feed.bytes(none, 1, 1, 8, 1, 2);
        Feed.reloc(none, 0, LinkScript.R_ABS16, 0, 0);
        Feed.link(none, true);
        Feed.in("no root", none, 0, 1, 0, -1, -1, -1);
        Feed.out("no root", none, 0, 0, 0, 0, ROM, 1, -1, 0, 1);
    }

    private static void longChainsStayLive() {
        // Relocations are fed so that each section is reached from the next.
        LinkScript x = new LinkScript(64, 64);
        Feed.open(x, ROM, 1);
        Feed.stmt(x, KEEP, 15, 0);
        Feed.stmt(x, INPUT, -1, 0);
        Feed.end(x);
        for (int s = 0; s < LinkScript.MAX_IN; s++) {
            Feed.bytes(x, 1, s, 1, 0, 0);
            Feed.reloc(x, 0, LinkScript.R_ABS16, s == 0 ? 15 : s - 1, 0);
        }
        Feed.link(x, true);
        for (int s = 0; s < LinkScript.MAX_IN; s++) {
            Check.due("chain: live " + s, x.inInfo(s, LinkScript.IN_LIVE), 1);
        }
        Feed.out("chain", x, 0, 0, 0, 32);
    }

    private static void undefinedTargets() {
        LinkScript x = new LinkScript(64, 64);
        Feed.open(x, ROM, 1);
        Feed.stmt(x, KEEP, 1, 0);
        Feed.stmt(x, INPUT, 2, 0);
        Feed.end(x);
        Feed.bytes(x, 1, 1, 1, 1, 2);
        Feed.bytes(x, 1, 2, 1, 3, 4);
        Feed.reloc(x, 0, LinkScript.R_ABS16, 2, 0);
        Feed.bytes(x, 1, 3, 1, 5, 6);
        refused("the target is unassigned", x, false, LinkScript.ERR_UNDEF);
        Feed.link(x, true);
        LinkScript y = new LinkScript(64, 64);
        Feed.section(y, ROM, 1, KEEP, 1);
        Feed.bytes(y, 1, 1, 1, 1, 2);
        Feed.reloc(y, 0, LinkScript.R_PC16, 1, 0);
        refused("the target is not fed", y, true, LinkScript.ERR_UNDEF);
        refused("the target is not fed", y, false, LinkScript.ERR_UNDEF);
        Feed.bytes(y, 1, 2, 1, 1, 2);
        refused("the target is unassigned", y, true, LinkScript.ERR_UNDEF);
        Feed.section(y, ROM, 1, INPUT, 2);
        Feed.link(y, true);
    }

    private static void bytesInNoload() {
        for (int kind = LinkScript.KIND_TEXT; kind <= LinkScript.KIND_DATA; kind++) {
            LinkScript x = new LinkScript(64, 64);
            Feed.section(x, RAM, 0, INPUT, 1);
            Feed.bytes(x, kind, 1, 1);
            refused("kind " + kind, x, false, LinkScript.ERR_NOLOAD);
            Feed.link(x, true);
        }
        LinkScript y = new LinkScript(64, 64);
        Feed.section(y, RAM, 0, KEEP, 1);
        Feed.bss(y, 1, 4, 6);
        Feed.link(y, true);
        Feed.out("BSS in NOLOAD", y, 0, 256, 256, 6, RAM, 0, -1, 0, 4);
        Feed.info("BSS in NOLOAD", y, LinkScript.INFO_ROM_COUNTER, 0);
    }

    private static void conditionOrder() {
        LinkScript x = new LinkScript(16, 16);
        Feed.section(x, RAM, 0, KEEP, 1);
        Feed.stmt(x, ADD, 20, 0);
        Feed.open(x, ROM, 1);
        Feed.end(x);
        refused("overflow alone", x, false, LinkScript.ERR_OVERFLOW);
        Feed.stmt(x, SET, 19, 0);
        refused("overflow and backward", x, false, LinkScript.ERR_BACKWARD);
        Feed.bytes(x, 1, 1, 1, 1, 2);
        refused("and bytes in NOLOAD", x, false, LinkScript.ERR_NOLOAD);
        Feed.reloc(x, 0, 1, 9, 0);
        refused("and an undefined target", x, false, LinkScript.ERR_UNDEF);
        Feed.open(x, ROM, 1);
        refused("and an open section", x, false, LinkScript.ERR_SCRIPT);
    }

    private static void countersOutsideSections() {
        LinkScript x = new LinkScript(64, 64);
        Feed.stmt(x, ADD, 3, 0);
        Feed.stmt(x, ALIGN, 4, 0);
        Feed.stmt(x, ALIGN, 4, 0);
        Feed.stmt(x, ADD, 5, 1);
        Feed.stmt(x, SET, 261, 1);
        Feed.stmt(x, SET, 270, 1);
        Feed.stmt(x, ALIGN, 16, 1);
        Feed.open(x, ROM, 1);
        Feed.stmt(x, ADD, 2, 0);
        Feed.end(x);
        Feed.open(x, RAM, 0);
        Feed.stmt(x, ADD, 1, 0);
        Feed.end(x);
        Feed.stmt(x, SET, 1023, 0);
        Feed.stmt(x, ADD, 255, 1);
        Feed.link(x, false);
        Feed.out("counters", x, 0, 4, 4, 2);
        Feed.out("counters", x, 1, 272, 272, 1);
        Feed.info("beyond ROM", x, LinkScript.INFO_ROM_COUNTER, 1023);
        Feed.info("beyond RAM", x, LinkScript.INFO_RAM_COUNTER, 528);
    }

    private static void dotInsideSections() {
        LinkScript x = new LinkScript(64, 64);
        Feed.stmt(x, ADD, 1, 0);
        Feed.open(x, ROM, 1);
        Feed.stmt(x, SET, 1, 1);
        Feed.stmt(x, ADD, 2, 1);
        Feed.stmt(x, INPUT, 1, 0);
        Feed.stmt(x, ALIGN, 8, 1);
        Feed.stmt(x, INPUT, 2, 0);
        Feed.stmt(x, SET, 12, 1);
        Feed.end(x);
        Feed.bytes(x, 1, 1, 1, 1);
        Feed.bytes(x, 1, 2, 1, 2);
        Feed.link(x, false);
        Feed.out("dot", x, 0, 1, 1, 11);
        Feed.in("dot", x, 0, 4, 1, 0, 3, 3);
        Feed.in("dot", x, 1, 6, 1, 0, 8, 8);
        Feed.rom("dot", x, 0, 255, 0, 0, 1, 0, 0, 0, 0, 2, 0, 0, 0, 255);
        Feed.info("dot", x, LinkScript.INFO_ROM_COUNTER, 12);
        Feed.info("dot", x, LinkScript.INFO_RAM_COUNTER, 256);
    }

    private static LinkScript withSet(boolean inside, int region, int v) {
        LinkScript x = new LinkScript(64, 64);
        Feed.stmt(x, ADD, 8, region);
        if (inside) {
            Feed.open(x, region, 1);
        }
        Feed.stmt(x, SET, v, region);
        if (inside) {
            Feed.end(x);
        }
        return x;
    }

    private static void backwardSets() {
        for (int i = 0; i < 2; i++) {
            boolean inside = i == 1;
            refused("ROM", withSet(inside, ROM, 7), false, LinkScript.ERR_BACKWARD);
            refused("ROM", withSet(inside, ROM, 0), false, LinkScript.ERR_BACKWARD);
            refused("RAM", withSet(inside, RAM, 263), false, LinkScript.ERR_BACKWARD);
            refused("RAM", withSet(inside, RAM, 8), false, LinkScript.ERR_BACKWARD);
            Feed.link(withSet(inside, ROM, 8), false);
            Feed.link(withSet(inside, RAM, 264), false);
            Feed.link(withSet(inside, ROM, 9), false);
        }
        LinkScript x = new LinkScript(64, 64);
        Feed.open(x, ROM, 1);
        Feed.stmt(x, INPUT, -1, 0);
        Feed.stmt(x, SET, 2, 0);
        Feed.end(x);
        Feed.bytes(x, 1, 0, 1, 1, 2);
        Feed.bytes(x, 1, 0, 1, 3);
        refused("behind the inputs", x, false, LinkScript.ERR_BACKWARD);
        Feed.link(x, true);
        Feed.out("nothing live", x, 0, 0, 0, 2);
    }

    private static void alignment() {
        LinkScript x = new LinkScript(64, 64);
        Feed.stmt(x, ADD, 1, 0);
        Feed.stmt(x, ADD, 3, 1);
        Feed.open(x, RAM, 1);
        Feed.stmt(x, KEEP, 1, 0);
        Feed.stmt(x, INPUT, 2, 0);
        Feed.end(x);
        Feed.bytes(x, 2, 1, 2, 1);
        Feed.bytes(x, 2, 2, 16, 2);
        Feed.bytes(x, 2, 1, 8, 3);
        Feed.bytes(x, 2, 1, 1, 4);
        Feed.link(x, true);
        // The collected section's align of 16 does not count.
        Feed.out("collected", x, 0, 264, 8, 10, RAM, 1, -1, 0, 8);
        Feed.in("align", x, 0, 3, 1, 0, 264, 8);
        Feed.in("align", x, 2, 3, 1, 0, 272, 16);
        Feed.in("align", x, 3, 3, 1, 0, 273, 17);
        Feed.rom("align", x, 7, 255, 1, 0, 0, 0, 0, 0, 0, 0, 3, 4, 255);
    }

    private static void loadAddresses() {
        LinkScript x = new LinkScript(64, 64);
        Feed.section(x, ROM, 1, KEEP, 0);
        Feed.section(x, RAM, 1, KEEP, 1);
        Feed.section(x, RAM, 0, KEEP, 2);
        Feed.section(x, RAM, 1, KEEP, 3);
        Feed.section(x, ROM, 1, KEEP, 4);
        Feed.bytes(x, 1, 0, 1, 1, 2, 3);
        Feed.bytes(x, 2, 1, 2, 4, 5, 6);
        Feed.bss(x, 2, 1, 7);
        Feed.bytes(x, 2, 3, 4, 7);
        Feed.bytes(x, 1, 4, 2, 8);
        Feed.link(x, true);
        Feed.out("ROM", x, 0, 0, 0, 3, ROM, 1, -1, 0, 1, -1, -1);
        Feed.out("RAM", x, 1, 256, 4, 3, RAM, 1, -1, 0, 2, -1, -1);
        Feed.out("NOLOAD", x, 2, 259, 259, 7, RAM, 0, -1, 0, 1, -1, -1);
        Feed.out("RAM", x, 3, 268, 8, 1, RAM, 1, -1, 0, 4, -1, -1);
        Feed.out("ROM", x, 4, 10, 10, 1, ROM, 1, -1, 0, 2, -1, -1);
        Feed.rom("all", x, 0, 1, 2, 3, 255, 4, 5, 6, 255, 7, 255, 8, 255);
        Feed.info("all", x, LinkScript.INFO_ROM_COUNTER, 11);
        Feed.info("all", x, LinkScript.INFO_RAM_COUNTER, 269);
        for (int i = 0; i < 64; i++) {
            Feed.ram("link writes no RAM", x, 256 + i, 255);
        }
    }

    private static void overlays() {
        LinkScript x = new LinkScript(64, 64);
        Feed.stmt(x, ADD, 3, 1);
        Feed.stmt(x, LinkScript.OP_OVERLAY, 0, 0);
        Feed.section(x, RAM, 1, KEEP, 1);
        Feed.section(x, RAM, 1, KEEP, 2);
        Feed.section(x, RAM, 0, KEEP, 3);
        Feed.stmt(x, LinkScript.OP_OVERLAY_END, 0, 0);
        Feed.stmt(x, LinkScript.OP_OVERLAY, 0, 0);
        Feed.stmt(x, LinkScript.OP_OVERLAY_END, 0, 0);
        Feed.stmt(x, LinkScript.OP_OVERLAY, 0, 0);
        Feed.section(x, RAM, 1, KEEP, 4);
        Feed.stmt(x, LinkScript.OP_OVERLAY_END, 0, 0);
        Feed.section(x, RAM, 1, KEEP, 5);
        Feed.bytes(x, 2, 1, 1, 1, 2);
        Feed.bytes(x, 2, 2, 4, 3, 4, 5);
        Feed.bss(x, 3, 2, 1);
        Feed.bytes(x, 2, 4, 1, 6);
        Feed.bytes(x, 2, 5, 1, 7);
        Feed.link(x, true);
        Feed.out("first", x, 0, 259, 0, 2, RAM, 1, 0, 1, 1, 259, 263);
        Feed.out("second", x, 1, 260, 4, 3, RAM, 1, 0, 0, 4, 259, 263);
        Feed.out("NOLOAD", x, 2, 260, 260, 1, RAM, 0, 0, 0, 2, 259, 263);
        Feed.out("third group", x, 3, 263, 7, 1, RAM, 1, 2, 1, 1, 263, 264);
        Feed.out("no member", x, 4, 264, 8, 1, RAM, 1, -1, 0, 1, -1, -1);
        Feed.rom("members", x, 0, 1, 2, 255, 255, 3, 4, 5, 6, 7, 255);
        Feed.info("members", x, LinkScript.INFO_ROM_COUNTER, 9);
        Feed.info("members", x, LinkScript.INFO_RAM_COUNTER, 265);
    }

    private static LinkScript sized(int region, int loaded, int before, int size) {
        LinkScript x = new LinkScript(32, 48);
        Feed.stmt(x, ADD, before, region);
        Feed.open(x, region, loaded);
        Feed.stmt(x, ADD, size, 0);
        Feed.end(x);
        return x;
    }

    private static void overflowEdges() {
        Feed.link(sized(ROM, 1, 0, 32), false);
        Feed.link(sized(ROM, 1, 32, 0), false);
        refused("ROM", sized(ROM, 1, 0, 33), false, LinkScript.ERR_OVERFLOW);
        refused("ROM", sized(ROM, 1, 33, 0), false, LinkScript.ERR_OVERFLOW);
        Feed.link(sized(RAM, 0, 0, 48), false);
        Feed.link(sized(RAM, 0, 48, 0), false);
        refused("NOLOAD", sized(RAM, 0, 0, 49), false, LinkScript.ERR_OVERFLOW);
        refused("NOLOAD", sized(RAM, 0, 49, 0), false, LinkScript.ERR_OVERFLOW);
        Feed.link(sized(RAM, 1, 0, 32), false);
        refused("the image in ROM", sized(RAM, 1, 0, 33), false, LinkScript.ERR_OVERFLOW);
        refused("RAM", sized(RAM, 1, 48, 1), false, LinkScript.ERR_OVERFLOW);
        LinkScript x = new LinkScript(32, 48);
        Feed.stmt(x, ADD, 33, 0);
        Feed.open(x, RAM, 0);
        Feed.end(x);
        Feed.link(x, false);
        LinkScript y = new LinkScript(32, 48);
        Feed.stmt(y, ADD, 33, 0);
        Feed.open(y, RAM, 1);
        Feed.end(y);
        refused("an empty image beyond ROM", y, false, LinkScript.ERR_OVERFLOW);
        LinkScript z = new LinkScript(32, 48);
        Feed.stmt(z, ADD, 200, 1);
        Feed.stmt(z, LinkScript.OP_OVERLAY, 0, 0);
        Feed.stmt(z, LinkScript.OP_OVERLAY_END, 0, 0);
        Feed.link(z, false);
        Feed.start(z);
        Feed.info("an empty group beyond RAM", z, LinkScript.INFO_RAM_COUNTER, 456);
        LinkScript member = new LinkScript(32, 16);
        Feed.stmt(member, LinkScript.OP_OVERLAY, 0, 0);
        Feed.open(member, RAM, 0);
        Feed.stmt(member, ADD, 17, 0);
        Feed.end(member);
        Feed.stmt(member, LinkScript.OP_OVERLAY_END, 0, 0);
        refused("a member", member, false, LinkScript.ERR_OVERFLOW);
    }

    private static void relocationValues() {
        LinkScript x = new LinkScript(64, 64);
        Feed.section(x, ROM, 1, KEEP, 0);
        Feed.section(x, RAM, 1, KEEP, 1);
        Feed.bytes(x, 1, 0, 1, 9, 9, 9, 9, 9, 9, 9, 9, 9, 9, 9, 9, 9);
        Feed.reloc(x, 0, LinkScript.R_ABS16, 1, 255);
        Feed.reloc(x, 2, LinkScript.R_LMA16, 1, -16);
        Feed.reloc(x, 4, LinkScript.R_PC16, 0, 1);
        Feed.reloc(x, 6, LinkScript.R_PC16, 1, 0);
        Feed.reloc(x, 8, LinkScript.R_ABS16, 0, -256);
        Feed.reloc(x, 10, LinkScript.R_LMA16, 0, 7);
        Feed.bytes(x, 2, 1, 4, 8, 8, 8, 8, 8, 8, 8);
        Feed.reloc(x, 1, LinkScript.R_PC16, 0, 0);
        Feed.reloc(x, 3, LinkScript.R_PC16, 1, 0);
        Feed.reloc(x, 5, LinkScript.R_LMA16, 1, 255);
        Feed.link(x, true);
        // 511, 0, -3, 250, -256, 7; the RAM section is at 256 and loaded at 16.
        Feed.rom("values", x, 0, 255, 1, 0, 0, 253, 255, 250, 0, 0, 255, 7, 0, 9, 255, 255, 255);
        // -257, -3, 271.
        Feed.rom("values", x, 16, 8, 255, 254, 253, 255, 15, 1, 255);
    }

    private static void imagesAndGaps() {
        LinkScript x = new LinkScript(128, 64);
        Feed.open(x, RAM, 1);
        Feed.stmt(x, KEEP, -1, LinkScript.KIND_BSS);
        Feed.stmt(x, KEEP, -1, LinkScript.KIND_DATA);
        Feed.stmt(x, ADD, 2, 0);
        Feed.end(x);
        Feed.bytes(x, 2, 0, 1, 1);
        Feed.bss(x, 0, 1, 2);
        Feed.bytes(x, 2, 0, 4, 2);
        Feed.link(x, true);
        Feed.rom("gaps", x, 0, 0, 0, 1, 0, 2, 0, 0, 255);
        for (int i = 7; i < 128; i++) {
            Feed.rom("blank", x, i, 255);
        }
    }

    private static void refusalLeavesEverything() {
        LinkScript x = new LinkScript(16, 16);
        Feed.section(x, ROM, 1, KEEP, 0);
        Feed.bytes(x, 1, 0, 1, 1, 2);
        Feed.reloc(x, 0, LinkScript.R_ABS16, 1, 0);
        refused("first", x, true, LinkScript.ERR_UNDEF);
        Check.due("feeding goes on", x.addByte(3), LinkScript.OK);
        Feed.in("refused", x, 0, -1, -1, -1, -1, -1);
        Feed.out("refused", x, 0, -1, -1, -1);
        Feed.rom("refused", x, 0, -1);
        Feed.run("refused", x, 0, -1);
        Feed.run("refused", x, 256, -1);
        Feed.bytes(x, 1, 0, 16, 4);
        refused("second", x, true, LinkScript.ERR_OVERFLOW);
        Check.due("startup is refused", x.startup(), LinkScript.ERR_STATE);
        LinkScript y = new LinkScript(17, 16);
        Feed.section(y, ROM, 1, KEEP, 0);
        Feed.bytes(y, 1, 0, 1, 1, 2);
        Feed.reloc(y, 0, LinkScript.R_ABS16, 1, 0);
        refused("again", y, true, LinkScript.ERR_UNDEF);
        Feed.bytes(y, 1, 0, 16, 4);
        Feed.link(y, true);
        Feed.rom("at last", y, 0, 16, 0, 0);
        Feed.rom("at last", y, 15, 0, 4, -1);
        Check.due("linked: link", y.link(true), LinkScript.ERR_STATE);
        Feed.rom("a second link", y, 0, 16, 0, 0);
        Feed.out("a second link", y, 0, 0, 0, 17);
    }

    private static void refusalLeavesNoCounter() {
        LinkScript x = new LinkScript(16, 16);
        Feed.stmt(x, ADD, 5, 0);
        Feed.stmt(x, ADD, 6, 1);
        Feed.section(x, ROM, 1, KEEP, 0);
        Feed.section(x, RAM, 0, INPUT, 1);
        Feed.bytes(x, 1, 0, 1, 1);
        Feed.bss(x, 1, 1, 20);
        refused("RAM overflows", x, false, LinkScript.ERR_OVERFLOW);
        Feed.link(x, true);
        Feed.out("second link", x, 0, 5, 5, 1);
        Feed.out("second link", x, 1, 262, 262, 0);
        Feed.in("second link", x, 1, 6, 0, -1, -1, -1);
        Feed.rom("second link", x, 4, 255, 1, 255);
        Feed.info("second link", x, LinkScript.INFO_ROM_COUNTER, 6);
        Feed.info("second link", x, LinkScript.INFO_RAM_COUNTER, 262);
    }

    private static void fullScript() {
        LinkScript x = new LinkScript(128, 128);
        Feed.open(x, ROM, 1);
        for (int i = 2; i < LinkScript.MAX_STMTS; i++) {
            Feed.stmt(x, INPUT, 1, 0);
        }
        Feed.end(x);
        Feed.bytes(x, 1, 1, 1, 5);
        Feed.bytes(x, 1, 2, 1, 6);
        Feed.link(x, false);
        Feed.in("32 statements", x, 0, 1, 1, 0, 0, 0);
        Feed.in("32 statements", x, 1, -1, 0, -1, -1, -1);
    }
}
