/** Promise 6, placement and condition 6: each sentence that names a boundary. */
public final class Boundary06PlacementTest {
    private static final int ROM = LinkScript.REGION_ROM;
    private static final int RAM = LinkScript.REGION_RAM;
    private static final int INPUT = LinkScript.OP_INPUT;
    private static final int KEEP = LinkScript.OP_KEEP;
    private static final int SET = LinkScript.OP_DOT_SET;
    private static final int ADD = LinkScript.OP_DOT_ADD;
    private static final int ALIGN = LinkScript.OP_DOT_ALIGN;
    private static final int TEXT = LinkScript.KIND_TEXT;
    private static final int DATA = LinkScript.KIND_DATA;
    private static final int[] SIZES = {16, 17, 100, 127, 128};

    public static void main(String[] args) {
        countersStartAtTheBases();
        noLiveInputInRom();
        noLiveInputInLoadedRam();
        noLiveInputInNoload();
        noLiveInputInAMember();
        noLiveInputButADotAdd();
        emptyLiveInputStillAligns();
        greatestAlignOfAllStatements();
        dotAlignmentIsNoSectionAlign();
        inputsByAscendingIndex();
        dotSetToTheDotItself();
        dotAddOf0AndOf255();
        romEndsExactly();
        noloadEndsExactly();
        loadedRamEndsExactlyInRam();
        loadedRamEndsExactlyInRom();
        memberEndsExactlyInRam();
        memberEndsExactlyInRom();
        emptySectionAtTheEnd();
        fedBytesEndExactly();
        alignmentPushesBeyondTheEnd();
        noloadNeedsNoRom();
        onlySectionsOverflow();
        someSectionOverflows();
        groupWithoutMembersHasAnEmptySpan();
        spanIsAsLongAsItsLongestMember();
        eachLoadedMemberMovesTheRomCounter();
        rangesAreDisjointAndWithinTheirRegions();
        Check.finish();
    }

    private static void refused(String when, LinkScript x) {
        State before = State.of(x);
        Check.due(when + ": link", x.link(false), LinkScript.ERR_OVERFLOW);
        before.isStill(when, x);
    }

    private static void counters(String when, LinkScript x, int rom, int ram) {
        Feed.info(when, x, LinkScript.INFO_ROM_COUNTER, rom);
        Feed.info(when, x, LinkScript.INFO_RAM_COUNTER, ram);
    }

    private static void countersStartAtTheBases() {
        LinkScript x = new LinkScript(64, 64);
        Feed.stmt(x, SET, 0, ROM);
        Feed.stmt(x, SET, 256, RAM);
        Feed.open(x, ROM, 1);
        Feed.end(x);
        Feed.open(x, RAM, 1);
        Feed.end(x);
        Feed.link(x, false);
        Feed.out("ROM_BASE", x, 0, 0, 0, 0);
        Feed.out("RAM_BASE", x, 1, 256, 0, 0);
        counters("bases", x, 0, 256);
    }

    // Counters at 3 and 261; a collected section of align 16 that must not count.
    private static LinkScript withoutLiveInput(int region, int loaded, boolean member) {
        LinkScript x = new LinkScript(64, 64);
        Feed.stmt(x, ADD, 3, ROM);
        Feed.stmt(x, ADD, 5, RAM);
        if (member) {
            Feed.openGroup(x);
        }
        Feed.section(x, region, loaded, INPUT, 0);
        if (member) {
            Feed.endGroup(x);
        }
        Feed.bytes(x, TEXT, 0, 16, 1, 2);
        Feed.link(x, true);
        return x;
    }

    private static void noLiveInputInRom() {
        LinkScript x = withoutLiveInput(ROM, 1, false);
        Feed.out("ROM", x, 0, 3, 3, 0, ROM, 1, -1, 0, 1);
        counters("ROM", x, 3, 261);
        LinkScript y = new LinkScript(64, 64);
        Feed.open(y, ROM, 1);
        Feed.end(y);
        Feed.link(y, false);
        Feed.out("not even a statement", y, 0, 0, 0, 0, ROM, 1, -1, 0, 1);
    }

    private static void noLiveInputInLoadedRam() {
        LinkScript x = withoutLiveInput(RAM, 1, false);
        Feed.out("loaded", x, 0, 261, 3, 0, RAM, 1, -1, 0, 1);
        counters("loaded", x, 3, 261);
    }

    private static void noLiveInputInNoload() {
        LinkScript x = withoutLiveInput(RAM, 0, false);
        Feed.out("NOLOAD", x, 0, 261, 261, 0, RAM, 0, -1, 0, 1);
        counters("NOLOAD", x, 3, 261);
    }

    private static void noLiveInputInAMember() {
        LinkScript x = withoutLiveInput(RAM, 1, true);
        Feed.out("loaded member", x, 0, 261, 3, 0, RAM, 1, 0, 1, 1, 261, 261);
        LinkScript y = withoutLiveInput(RAM, 0, true);
        Feed.out("NOLOAD member", y, 0, 261, 261, 0, RAM, 0, 0, 1, 1, 261, 261);
        counters("NOLOAD member", y, 3, 261);
    }

    private static void noLiveInputButADotAdd() {
        LinkScript x = new LinkScript(64, 64);
        Feed.stmt(x, ADD, 3, ROM);
        Feed.open(x, RAM, 1);
        Feed.stmt(x, ADD, 2, 0);
        Feed.end(x);
        Feed.link(x, false);
        Feed.out("two bytes", x, 0, 256, 3, 2);
        Feed.rom("its image is zero", x, 2, 255, 0, 0, 255);
    }

    private static void emptyLiveInputStillAligns() {
        LinkScript x = new LinkScript(64, 64);
        Feed.stmt(x, ADD, 1, RAM);
        Feed.stmt(x, ADD, 3, ROM);
        Feed.section(x, RAM, 1, KEEP, 0);
        Feed.bytes(x, DATA, 0, 8);
        Feed.link(x, true);
        Feed.out("no byte, align 8", x, 0, 264, 8, 0, RAM, 1, -1, 0, 8);
        Feed.in("no byte, align 8", x, 0, 3, 1, 0, 264, 8);
        counters("no byte, align 8", x, 8, 264);
        LinkScript y = new LinkScript(64, 64);
        Feed.section(y, RAM, 0, KEEP, -1);
        Feed.bss(y, 0, 1, 3);
        Feed.bss(y, 0, 16, 0);
        Feed.link(y, true);
        Feed.out("BSS of 0 at the end", y, 0, 256, 256, 16);
    }

    private static void greatestAlignOfAllStatements() {
        LinkScript x = new LinkScript(64, 64);
        Feed.stmt(x, ADD, 1, ROM);
        Feed.open(x, ROM, 1);
        Feed.stmt(x, INPUT, 0, 0);
        Feed.stmt(x, INPUT, 1, 0);
        Feed.end(x);
        Feed.section(x, ROM, 1, INPUT, 2);
        Feed.bytes(x, TEXT, 0, 2, 1);
        Feed.bytes(x, TEXT, 1, 8, 2);
        Feed.bytes(x, TEXT, 1, 4, 3);
        Feed.bytes(x, TEXT, 2, 16, 4);
        Feed.link(x, false);
        Feed.out("align of the second statement", x, 0, 8, 8, 13, ROM, 1, -1, 0, 8);
        Feed.in("first", x, 0, 2, 1, 0, 8, 8);
        Feed.in("second", x, 1, 3, 1, 0, 16, 16);
        Feed.in("third", x, 2, 3, 1, 0, 20, 20);
        Feed.out("the next section's own", x, 1, 32, 32, 1, ROM, 1, -1, 0, 16);
    }

    private static void dotAlignmentIsNoSectionAlign() {
        LinkScript x = new LinkScript(64, 64);
        Feed.stmt(x, ADD, 1, ROM);
        Feed.open(x, ROM, 1);
        Feed.stmt(x, ALIGN, 16, 0);
        Feed.end(x);
        Feed.link(x, false);
        Feed.out("DOT_ALIGN 16", x, 0, 1, 1, 15, ROM, 1, -1, 0, 1);
    }

    private static void inputsByAscendingIndex() {
        LinkScript x = new LinkScript(64, 64);
        Feed.open(x, ROM, 1);
        Feed.stmt(x, INPUT, 1, 0);
        Feed.stmt(x, INPUT, -1, 0);
        Feed.end(x);
        int[] ids = {2, 1, 0, 1};
        for (int id : ids) {
            Feed.bytes(x, TEXT, id, 1, id);
        }
        Feed.link(x, false);
        Feed.rom("by statement, then by index", x, 0, 1, 1, 2, 0);
        Feed.in("index 3 before index 0", x, 3, 1, 1, 0, 1, 1);
    }

    private static void dotSetToTheDotItself() {
        LinkScript x = new LinkScript(64, 64);
        Feed.stmt(x, ADD, 4, ROM);
        Feed.stmt(x, SET, 4, ROM);
        Feed.open(x, ROM, 1);
        Feed.stmt(x, SET, 4, 0);
        Feed.stmt(x, ADD, 3, 0);
        Feed.stmt(x, SET, 7, 0);
        Feed.end(x);
        Feed.link(x, false);
        Feed.out("nothing moves", x, 0, 4, 4, 3);
    }

    private static void dotAddOf0AndOf255() {
        LinkScript x = new LinkScript(64, 64);
        Feed.open(x, ROM, 1);
        Feed.stmt(x, ADD, 0, 0);
        Feed.end(x);
        Feed.stmt(x, ADD, 0, ROM);
        Feed.stmt(x, ADD, 255, ROM);
        Feed.link(x, false);
        Feed.out("DOT_ADD 0", x, 0, 0, 0, 0);
        counters("DOT_ADD 255", x, 255, 256);
        LinkScript y = new LinkScript(128, 128);
        Feed.open(y, RAM, 0);
        Feed.stmt(y, ADD, 255, 0);
        Feed.end(y);
        refused("DOT_ADD 255 inside", y);
    }

    // One section of the size, behind as many bytes of its region.
    private static LinkScript sized(int rom, int ram, int region, int loaded, int before, int size) {
        LinkScript x = new LinkScript(rom, ram);
        Feed.stmt(x, ADD, before, region);
        Feed.open(x, region, loaded);
        Feed.stmt(x, ADD, size, 0);
        Feed.end(x);
        return x;
    }

    private static void romEndsExactly() {
        for (int rom : SIZES) {
            LinkScript x = sized(rom, 16, ROM, 1, 0, rom);
            Feed.link(x, false);
            Feed.rom("ROM of " + rom, x, rom - 1, 0, -1);
            Feed.link(sized(rom, 16, ROM, 1, rom - 3, 3), false);
            refused("one beyond ROM of " + rom, sized(rom, 16, ROM, 1, 0, rom + 1));
            refused("one beyond ROM of " + rom, sized(rom, 16, ROM, 1, rom - 3, 4));
        }
    }

    private static void noloadEndsExactly() {
        for (int ram : SIZES) {
            LinkScript x = sized(16, ram, RAM, 0, 0, ram);
            Feed.link(x, false);
            Feed.start(x);
            Feed.ram("RAM of " + ram, x, 256 + ram - 1, 0, -1);
            Feed.link(sized(16, ram, RAM, 0, ram - 3, 3), false);
            refused("one beyond RAM of " + ram, sized(16, ram, RAM, 0, 0, ram + 1));
            refused("one beyond RAM of " + ram, sized(16, ram, RAM, 0, ram - 3, 4));
        }
    }

    private static void loadedRamEndsExactlyInRam() {
        for (int ram : SIZES) {
            LinkScript x = sized(128, ram, RAM, 1, 0, ram);
            Feed.link(x, false);
            Feed.start(x);
            Feed.ram("RAM of " + ram, x, 256 + ram - 1, 0, -1);
            refused("one beyond RAM of " + ram, sized(128, ram, RAM, 1, ram, 1));
        }
    }

    private static LinkScript imageBehind(int rom, int before, int size, boolean member) {
        LinkScript x = new LinkScript(rom, 128);
        Feed.stmt(x, ADD, before, ROM);
        if (member) {
            Feed.openGroup(x);
        }
        Feed.open(x, RAM, 1);
        Feed.stmt(x, ADD, size, 0);
        Feed.end(x);
        if (member) {
            Feed.endGroup(x);
        }
        return x;
    }

    private static void loadedRamEndsExactlyInRom() {
        for (int rom : SIZES) {
            LinkScript x = imageBehind(rom, 5, rom - 5, false);
            Feed.link(x, false);
            Feed.rom("ROM of " + rom, x, 4, 255, 0);
            Feed.rom("ROM of " + rom, x, rom - 1, 0, -1);
            refused("one beyond ROM of " + rom, imageBehind(rom, 5, rom - 4, false));
        }
    }

    private static void memberEndsExactlyInRam() {
        for (int loaded = 0; loaded <= 1; loaded++) {
            for (int size = 20; size <= 21; size++) {
                LinkScript x = new LinkScript(128, 25);
                Feed.stmt(x, ADD, 5, RAM);
                Feed.openGroup(x);
                Feed.open(x, RAM, 1);
                Feed.end(x);
                Feed.open(x, RAM, loaded);
                Feed.stmt(x, ADD, size, 0);
                Feed.end(x);
                Feed.endGroup(x);
                if (size == 20) {
                    Feed.link(x, false);
                    Feed.start(x);
                    Feed.ram("the span to the last byte", x, 260, 255, 0);
                    Feed.ram("the span to the last byte", x, 280, 0, -1);
                } else {
                    refused("one beyond RAM", x);
                }
            }
        }
    }

    private static void memberEndsExactlyInRom() {
        Feed.link(imageBehind(40, 10, 30, true), false);
        refused("one beyond ROM", imageBehind(40, 10, 31, true));
        // Members share RAM, not ROM.
        LinkScript x = new LinkScript(40, 40);
        Feed.openGroup(x);
        for (int k = 0; k < 2; k++) {
            Feed.open(x, RAM, 1);
            Feed.stmt(x, ADD, 20 + k, 0);
            Feed.end(x);
        }
        Feed.endGroup(x);
        refused("41 bytes of images", x);
    }

    private static void emptySectionAtTheEnd() {
        LinkScript rom = sized(20, 30, ROM, 1, 20, 0);
        Feed.link(rom, false);
        Feed.out("at ROM's end", rom, 0, 20, 20, 0);
        refused("beyond ROM's end", sized(20, 30, ROM, 1, 21, 0));
        LinkScript ram = sized(20, 30, RAM, 0, 30, 0);
        Feed.link(ram, false);
        Feed.start(ram);
        Feed.out("at RAM's end", ram, 0, 286, 286, 0);
        refused("beyond RAM's end", sized(20, 30, RAM, 0, 31, 0));
        refused("beyond RAM's end", sized(20, 30, RAM, 1, 31, 0));
        LinkScript image = imageBehind(20, 20, 0, false);
        Feed.link(image, false);
        Feed.start(image);
        Feed.out("its image at ROM's end", image, 0, 256, 20, 0);
        refused("its image beyond ROM's end", imageBehind(20, 21, 0, false));
        refused("a member's image beyond ROM's end", imageBehind(20, 21, 0, true));
    }

    private static void fedBytesEndExactly() {
        for (int size = 128; size <= 129; size++) {
            LinkScript x = new LinkScript(128, 128);
            Feed.section(x, RAM, 1, KEEP, 0);
            Feed.filled(x, DATA, 0, 1, size, 77);
            if (size == 128) {
                Feed.link(x, true);
                Feed.start(x);
                Feed.rom("128 bytes", x, 127, 77, -1);
                Feed.ram("128 bytes", x, 383, 77, -1);
            } else {
                refused("129 bytes", x);
            }
        }
        LinkScript y = new LinkScript(16, 128);
        Feed.section(y, RAM, 0, KEEP, 0);
        Feed.bss(y, 0, 1, 128);
        Feed.link(y, true);
        Feed.out("BSS of 128", y, 0, 256, 256, 128);
        LinkScript z = new LinkScript(16, 127);
        Feed.section(z, RAM, 0, KEEP, 0);
        Feed.bss(z, 0, 1, 128);
        refused("BSS of 128 in 127", z);
    }

    private static void alignmentPushesBeyondTheEnd() {
        for (int before = 0; before <= 1; before++) {
            LinkScript x = new LinkScript(20, 16);
            Feed.stmt(x, ADD, before, ROM);
            Feed.section(x, ROM, 1, KEEP, 0);
            Feed.filled(x, TEXT, 0, 16, 5, 1);
            if (before == 0) {
                Feed.link(x, true);
            } else {
                refused("from 1 to 16", x);
            }
        }
        LinkScript y = new LinkScript(20, 32);
        Feed.stmt(y, ADD, 1, ROM);
        Feed.section(y, RAM, 1, KEEP, 0);
        Feed.filled(y, DATA, 0, 16, 5, 1);
        refused("its image from 1 to 16", y);
        LinkScript z = new LinkScript(20, 16);
        Feed.open(z, ROM, 1);
        Feed.stmt(z, ADD, 17, 0);
        Feed.stmt(z, ALIGN, 8, 0);
        Feed.end(z);
        refused("the dot from 17 to 24", z);
    }

    private static void noloadNeedsNoRom() {
        LinkScript x = new LinkScript(16, 128);
        Feed.open(x, ROM, 1);
        Feed.stmt(x, ADD, 16, 0);
        Feed.end(x);
        Feed.stmt(x, ADD, 99, ROM);
        Feed.section(x, RAM, 0, KEEP, 0);
        Feed.openGroup(x);
        Feed.section(x, RAM, 0, KEEP, 1);
        Feed.endGroup(x);
        Feed.bss(x, 0, 1, 100);
        Feed.bss(x, 1, 1, 28);
        Feed.link(x, true);
        Feed.out("NOLOAD", x, 1, 256, 256, 100);
        Feed.out("NOLOAD member", x, 2, 356, 356, 28);
        counters("NOLOAD", x, 115, 384);
    }

    private static void onlySectionsOverflow() {
        LinkScript x = new LinkScript(16, 16);
        Feed.stmt(x, SET, 1023, ROM);
        Feed.stmt(x, SET, 1023, RAM);
        Feed.openGroup(x);
        Feed.endGroup(x);
        Feed.link(x, false);
        counters("no section", x, 1023, 1023);
        Feed.start(x);
        for (int i = 0; i < 16; i++) {
            Feed.ram("a span beyond RAM is empty", x, 256 + i, 255);
            Feed.run("a span beyond RAM is empty", x, 256 + i, 255);
        }
    }

    private static void someSectionOverflows() {
        for (int wrong = 0; wrong < LinkScript.MAX_OUT; wrong++) {
            LinkScript x = new LinkScript(16, 16);
            Feed.openGroup(x);
            for (int k = 0; k < LinkScript.MAX_OUT; k++) {
                Feed.open(x, RAM, 0);
                Feed.stmt(x, ADD, k == wrong ? 17 : 16, 0);
                Feed.end(x);
            }
            Feed.endGroup(x);
            refused("member " + wrong, x);
        }
    }

    private static void groupWithoutMembersHasAnEmptySpan() {
        LinkScript x = new LinkScript(64, 64);
        Feed.stmt(x, ADD, 3, RAM);
        Feed.openGroup(x);
        Feed.endGroup(x);
        Feed.openGroup(x);
        Feed.open(x, RAM, 0);
        Feed.stmt(x, ADD, 2, 0);
        Feed.end(x);
        Feed.endGroup(x);
        Feed.link(x, false);
        Feed.out("the group behind it", x, 0, 259, 259, 2, RAM, 0, 1, 1, 1, 259, 261);
        counters("the group behind it", x, 0, 261);
    }

    private static void spanIsAsLongAsItsLongestMember() {
        int[][] orders = {{5, 2, 3}, {2, 5, 3}, {2, 3, 5}};
        for (int[] sizes : orders) {
            LinkScript x = new LinkScript(64, 64);
            Feed.openGroup(x);
            for (int size : sizes) {
                Feed.open(x, RAM, 1);
                Feed.stmt(x, ADD, size, 0);
                Feed.end(x);
            }
            Feed.endGroup(x);
            Feed.open(x, RAM, 0);
            Feed.end(x);
            Feed.link(x, false);
            for (int k = 0; k < 3; k++) {
                Check.due("start", x.outInfo(k, LinkScript.OUT_SPAN_START), 256);
                Check.due("end", x.outInfo(k, LinkScript.OUT_SPAN_END), 261);
                Check.due("vma", x.outInfo(k, LinkScript.OUT_VMA), 256);
            }
            Feed.out("behind the span", x, 3, 261, 261, 0);
        }
    }

    private static void eachLoadedMemberMovesTheRomCounter() {
        LinkScript x = new LinkScript(64, 64);
        Feed.openGroup(x);
        for (int k = 0; k < 3; k++) {
            Feed.open(x, RAM, k == 1 ? 0 : 1);
            Feed.stmt(x, ADD, 4, 0);
            Feed.end(x);
        }
        Feed.endGroup(x);
        Feed.link(x, false);
        Feed.out("loaded", x, 0, 256, 0, 4);
        Feed.out("NOLOAD", x, 1, 256, 256, 4);
        Feed.out("loaded", x, 2, 256, 4, 4);
        counters("loaded", x, 8, 260);
    }

    private static void rangesAreDisjointAndWithinTheirRegions() {
        LinkScript x = Overlays.linked();
        Ranges.areApart("linked", x);
        Feed.start(x);
        Ranges.areApart("started", x);
        Feed.load(x, 3);
        Feed.load(x, 6);
        Ranges.areApart("loaded", x);
    }
}
