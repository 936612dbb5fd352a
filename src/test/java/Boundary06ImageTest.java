/** Promise 6, success, images, relocations and ROM: each sentence that names a boundary. */
public final class Boundary06ImageTest {
    private static final int ROM = LinkScript.REGION_ROM;
    private static final int RAM = LinkScript.REGION_RAM;
    private static final int KEEP = LinkScript.OP_KEEP;
    private static final int INPUT = LinkScript.OP_INPUT;
    private static final int ADD = LinkScript.OP_DOT_ADD;
    private static final int TEXT = LinkScript.KIND_TEXT;
    private static final int DATA = LinkScript.KIND_DATA;
    private static final int ABS = LinkScript.R_ABS16;
    private static final int LMA = LinkScript.R_LMA16;
    private static final int PC = LinkScript.R_PC16;

    public static void main(String[] args) {
        minus3Gives253And255();
        valuesAroundTheByteBounds();
        addendsAtTheirBounds();
        leastAndGreatestValues();
        pcIsOwnAddressPlusOffset();
        lmaOfEachKindOfTarget();
        laterRelocationOverwritesBoth();
        laterRelocationOverwritesOneByte();
        earlierRelocationKeepsItsOtherByte();
        relocationInTheLastTwoBytes();
        relocationsOfCollectedSections();
        bssStaysZero();
        gapsAreZero();
        emptyImageWritesNothing();
        collectedBytesAreNotWritten();
        noloadIsNotInRom();
        romIs255Elsewhere();
        romIsFullToItsLastByte();
        firstMemberBecomesResident();
        groupWithoutMembersHasNoResident();
        linkDoesNotWriteRam();
        Check.finish();
    }

    // One relocation at offset 0 of a section at 16 in ROM, against itself.
    private static void value(int type, int addend, int low, int high) {
        LinkScript x = new LinkScript(64, 64);
        Feed.stmt(x, ADD, 16, ROM);
        Feed.section(x, ROM, 1, KEEP, 0);
        Feed.bytes(x, TEXT, 0, 1, 99, 99, 99);
        Feed.reloc(x, 0, type, 0, addend);
        Feed.link(x, true);
        Feed.rom("type " + type + ", addend " + addend, x, 15, 255, low, high, 99, 255);
    }

    private static void minus3Gives253And255() {
        value(PC, -3, 253, 255);
        value(ABS, -19, 253, 255);
        value(LMA, -19, 253, 255);
    }

    private static void valuesAroundTheByteBounds() {
        value(PC, 0, 0, 0);
        value(PC, 1, 1, 0);
        value(PC, -1, 255, 255);
        value(PC, 255, 255, 0);
        value(PC, -255, 1, 255);
        value(PC, -256, 0, 255);
        value(ABS, 239, 255, 0);
        value(ABS, 240, 0, 1);
        value(ABS, 241, 1, 1);
        value(LMA, -16, 0, 0);
        value(LMA, -17, 255, 255);
    }

    private static void addendsAtTheirBounds() {
        value(ABS, -256, 16, 255);
        value(ABS, 255, 15, 1);
        value(LMA, -256, 16, 255);
        value(LMA, 255, 15, 1);
    }

    private static void leastAndGreatestValues() {
        LinkScript x = new LinkScript(128, 128);
        Feed.section(x, ROM, 1, KEEP, 0);
        Feed.stmt(x, ADD, 124, RAM);
        Feed.section(x, RAM, 1, KEEP, 1);
        Feed.bytes(x, TEXT, 0, 1, 9, 9);
        Feed.reloc(x, 0, ABS, 1, 255);
        Feed.bytes(x, DATA, 1, 1, 8, 8, 8, 8);
        Feed.reloc(x, 2, PC, 0, -256);
        Feed.link(x, true);
        // 380 + 255, and 0 - 256 - (380 + 2).
        Feed.rom("greatest and least", x, 0, 123, 2, 8, 8, 130, 253, 255);
    }

    private static void pcIsOwnAddressPlusOffset() {
        LinkScript x = new LinkScript(64, 64);
        Feed.stmt(x, ADD, 8, RAM);
        Feed.section(x, RAM, 1, KEEP, 0);
        Feed.section(x, ROM, 1, KEEP, 1);
        Feed.bytes(x, DATA, 0, 1, 0, 0, 0, 0, 0);
        Feed.reloc(x, 3, PC, 1, 0);
        Feed.reloc(x, 0, PC, 1, 0);
        Feed.bytes(x, TEXT, 1, 1, 0, 0);
        Feed.reloc(x, 0, PC, 0, 0);
        Feed.link(x, true);
        // The target is at 5, the place at 264 + 3 or 264: -262 and -259; back it is 259.
        Feed.rom("run addresses, not load addresses", x, 0, 253, 254, 0, 250, 254, 3, 1);
    }

    private static void lmaOfEachKindOfTarget() {
        LinkScript x = new LinkScript(64, 64);
        Feed.section(x, ROM, 1, KEEP, 0);
        Feed.section(x, RAM, 1, KEEP, 1);
        Feed.section(x, RAM, 0, KEEP, 2);
        Feed.openGroup(x);
        Feed.section(x, RAM, 1, KEEP, 3);
        Feed.section(x, RAM, 1, KEEP, 4);
        Feed.endGroup(x);
        Feed.bytes(x, TEXT, 0, 1, 0, 0, 0, 0, 0, 0, 0, 0, 0, 0);
        for (int target = 0; target < 5; target++) {
            Feed.reloc(x, 2 * target, LMA, target, 0);
        }
        Feed.bytes(x, DATA, 1, 4, 1);
        Feed.bss(x, 2, 1, 2);
        Feed.bytes(x, DATA, 3, 1, 3, 3);
        Feed.bytes(x, DATA, 4, 2, 4);
        Feed.link(x, true);
        // ROM 0; loaded at 12; NOLOAD at 257, its run address; members at 13 and 16.
        Feed.rom("LMA", x, 0, 0, 0, 12, 0, 1, 1, 13, 0, 16, 0);
    }

    private static LinkScript overlapping(int first, int second) {
        LinkScript x = new LinkScript(64, 64);
        Feed.section(x, ROM, 1, KEEP, 0);
        Feed.bytes(x, TEXT, 0, 1, 90, 91, 92, 93);
        // 0x0103 and -2, so that all four bytes written differ.
        Feed.reloc(x, first, ABS, 1, 3);
        Feed.reloc(x, second, PC, 0, second - 2);
        Feed.section(x, RAM, 0, KEEP, 1);
        Feed.bss(x, 1, 1, 1);
        Feed.link(x, true);
        return x;
    }

    private static void laterRelocationOverwritesBoth() {
        Feed.rom("at the same offset", overlapping(1, 1), 0, 90, 254, 255, 93);
    }

    private static void laterRelocationOverwritesOneByte() {
        Feed.rom("one above", overlapping(0, 1), 0, 3, 254, 255, 93);
        Feed.rom("one below", overlapping(2, 1), 0, 90, 254, 255, 1);
    }

    private static void earlierRelocationKeepsItsOtherByte() {
        Feed.rom("two above", overlapping(0, 2), 0, 3, 1, 254, 255);
        Feed.rom("two below", overlapping(2, 0), 0, 254, 255, 3, 1);
    }

    private static void relocationInTheLastTwoBytes() {
        LinkScript x = new LinkScript(16, 16);
        Feed.section(x, RAM, 1, KEEP, 0);
        Feed.filled(x, DATA, 0, 1, 16, 7);
        Feed.reloc(x, 14, ABS, 0, 14);
        Feed.link(x, true);
        Feed.start(x);
        Feed.rom("the end of ROM", x, 13, 7, 14, 1, -1);
        Feed.ram("the end of RAM", x, 269, 7, 14, 1, -1);
    }

    private static void relocationsOfCollectedSections() {
        LinkScript x = new LinkScript(64, 64);
        Feed.open(x, ROM, 1);
        Feed.stmt(x, KEEP, 0, 0);
        Feed.stmt(x, INPUT, 1, 0);
        Feed.end(x);
        Feed.bytes(x, TEXT, 1, 1, 1, 2);
        Feed.reloc(x, 0, ABS, 1, 200);
        Feed.bytes(x, TEXT, 0, 1, 3, 4);
        Feed.link(x, true);
        Feed.rom("not written", x, 0, 3, 4, 255);
    }

    private static void bssStaysZero() {
        LinkScript x = new LinkScript(64, 64);
        Feed.section(x, ROM, 1, KEEP, 0);
        Feed.section(x, RAM, 1, KEEP, 1);
        Feed.bytes(x, TEXT, 0, 1, 5);
        Feed.bss(x, 0, 1, 3);
        Feed.bytes(x, DATA, 0, 1, 6);
        Feed.bss(x, 1, 1, 2);
        Feed.link(x, true);
        Feed.rom("BSS in loaded sections", x, 0, 5, 0, 0, 0, 6, 0, 0, 255);
        Feed.run("BSS in loaded sections", x, 256, 0, 0, 255);
    }

    private static void gapsAreZero() {
        LinkScript x = new LinkScript(64, 64);
        Feed.open(x, ROM, 1);
        Feed.stmt(x, ADD, 1, 0);
        Feed.stmt(x, KEEP, 0, 0);
        Feed.stmt(x, ADD, 2, 0);
        Feed.end(x);
        Feed.bytes(x, TEXT, 0, 1, 5);
        Feed.bytes(x, TEXT, 0, 4, 6);
        Feed.link(x, true);
        Feed.rom("DOT_ADD and align", x, 0, 0, 5, 0, 0, 6, 0, 0, 255);
    }

    private static void emptyImageWritesNothing() {
        LinkScript x = new LinkScript(64, 64);
        Feed.section(x, ROM, 1, KEEP, 0);
        Feed.open(x, RAM, 1);
        Feed.end(x);
        Feed.section(x, ROM, 1, KEEP, 1);
        Feed.bytes(x, TEXT, 0, 1);
        Feed.bytes(x, TEXT, 1, 1, 7);
        Feed.link(x, true);
        Feed.rom("one byte alone", x, 0, 7, 255);
        Feed.run("an empty RAM section", x, 256, 255);
    }

    private static void collectedBytesAreNotWritten() {
        LinkScript x = new LinkScript(64, 64);
        Feed.section(x, ROM, 1, INPUT, 0);
        Feed.filled(x, TEXT, 0, 1, 64, 7);
        Feed.link(x, true);
        for (int i = 0; i < 64; i++) {
            Feed.rom("collected", x, i, 255);
        }
    }

    private static void noloadIsNotInRom() {
        LinkScript x = new LinkScript(32, 32);
        Feed.section(x, RAM, 0, KEEP, 0);
        Feed.bss(x, 0, 1, 32);
        Feed.link(x, true);
        for (int i = 0; i < 32; i++) {
            Feed.rom("NOLOAD", x, i, 255);
            Feed.run("NOLOAD", x, 256 + i, 0);
        }
    }

    private static void romIs255Elsewhere() {
        LinkScript x = new LinkScript(48, 48);
        Feed.stmt(x, ADD, 3, ROM);
        Feed.section(x, ROM, 1, KEEP, 0);
        Feed.stmt(x, ADD, 2, ROM);
        Feed.section(x, RAM, 1, KEEP, 1);
        Feed.bytes(x, TEXT, 0, 1, 1, 2);
        Feed.bytes(x, DATA, 1, 4, 3);
        Feed.link(x, true);
        Feed.rom("gaps between sections", x, 0, 255, 255, 255, 1, 2, 255, 255, 255, 3, 255);
        for (int i = 9; i < 48; i++) {
            Feed.rom("behind all sections", x, i, 255);
        }
    }

    private static void romIsFullToItsLastByte() {
        LinkScript x = new LinkScript(128, 16);
        Feed.section(x, ROM, 1, KEEP, 0);
        Feed.filled(x, TEXT, 0, 1, 128, 6);
        Feed.link(x, true);
        for (int i = 0; i < 128; i++) {
            Feed.rom("full", x, i, 6);
        }
        Feed.rom("full", x, 128, -1);
        Feed.info("full", x, LinkScript.INFO_ROM_COUNTER, 128);
    }

    private static void firstMemberBecomesResident() {
        LinkScript x = Overlays.linked();
        Overlays.residentsAre("linked", x, 2, 5, 7);
        LinkScript empty = new LinkScript(64, 64);
        Feed.openGroup(empty);
        Feed.open(empty, RAM, 0);
        Feed.end(empty);
        Feed.section(empty, RAM, 1, KEEP, 0);
        Feed.endGroup(empty);
        Feed.bytes(empty, DATA, 0, 1, 5);
        Feed.link(empty, true);
        Overlays.residentsOf("an empty first member", empty, 2, 0);
        Feed.run("an empty first member", empty, 256, 0, 255);
    }

    private static void groupWithoutMembersHasNoResident() {
        LinkScript x = new LinkScript(64, 64);
        Feed.section(x, RAM, 1, KEEP, 0);
        Feed.openGroup(x);
        Feed.endGroup(x);
        Feed.section(x, RAM, 1, KEEP, 1);
        Feed.bytes(x, DATA, 0, 1, 5);
        Feed.bytes(x, DATA, 1, 1, 6);
        Feed.link(x, true);
        Overlays.residentsOf("no member", x, 2);
        Feed.run("no member", x, 256, 5, 6, 255);
    }

    private static void linkDoesNotWriteRam() {
        LinkScript x = Overlays.linked();
        for (int i = 0; i < 32; i++) {
            Feed.ram("linked", x, 256 + i, 255);
        }
    }
}
