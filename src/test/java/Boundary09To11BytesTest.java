/** Promises 9 to 11: each address just inside and just outside its bounds, in every phase. */
public final class Boundary09To11BytesTest {
    private static final int[] ROM_SIZES = {16, 17, 100, 127, 128};
    private static final int[] RAM_SIZES = {128, 127, 60, 17, 16};
    private static final int[] FAR = {Integer.MIN_VALUE, Integer.MIN_VALUE + 255, Integer.MIN_VALUE + 256,
        -65536, -512, -257, -256, -255, 511, 512, 1024, 65536, 65792, Integer.MAX_VALUE - 1, Integer.MAX_VALUE};

    public static void main(String[] args) {
        romByteInFeed();
        romByteWhenLinked();
        romByteWhenStarted();
        ramByteInAnyPhase();
        runByteInFeed();
        runByteWhenLinked();
        runByteWhenStarted();
        addressesFarOutside();
        runByteAroundASection();
        runByteAroundANoloadSection();
        runByteAroundAGroup();
        runByteOfAGroupWithoutMembers();
        runImageStandsBeforeStartup();
        gettersChangeNothing();
        Check.finish();
    }

    private static LinkScript inPhase(int phase, int romSize, int ramSize) {
        LinkScript x = new LinkScript(romSize, ramSize);
        if (phase >= LinkScript.PHASE_LINKED) {
            Feed.link(x, false);
        }
        if (phase == LinkScript.PHASE_STARTED) {
            Feed.start(x);
        }
        return x;
    }

    private static boolean inRom(LinkScript x, int addr) {
        return addr >= 0 && addr < x.info(LinkScript.INFO_ROM_SIZE);
    }

    private static boolean inRam(LinkScript x, int addr) {
        return addr >= 256 && addr < 256 + x.info(LinkScript.INFO_RAM_SIZE);
    }

    // Nothing is fed, so each byte that is there holds 255.
    private static void romBytes(int phase) {
        for (int i = 0; i < ROM_SIZES.length; i++) {
            LinkScript x = inPhase(phase, ROM_SIZES[i], RAM_SIZES[i]);
            for (int addr = -20; addr < 600; addr++) {
                boolean there = phase != LinkScript.PHASE_FEED && inRom(x, addr);
                Feed.rom("phase " + phase, x, addr, there ? 255 : -1);
            }
        }
    }

    private static void runBytes(int phase) {
        for (int i = 0; i < ROM_SIZES.length; i++) {
            LinkScript x = inPhase(phase, ROM_SIZES[i], RAM_SIZES[i]);
            for (int addr = -20; addr < 600; addr++) {
                boolean there = phase != LinkScript.PHASE_FEED && (inRom(x, addr) || inRam(x, addr));
                Feed.run("phase " + phase, x, addr, there ? 255 : -1);
            }
        }
    }

    private static void romByteInFeed() {
        romBytes(LinkScript.PHASE_FEED);
    }

    private static void romByteWhenLinked() {
        romBytes(LinkScript.PHASE_LINKED);
    }

    private static void romByteWhenStarted() {
        romBytes(LinkScript.PHASE_STARTED);
    }

    private static void ramByteInAnyPhase() {
        for (int phase = LinkScript.PHASE_FEED; phase <= LinkScript.PHASE_STARTED; phase++) {
            for (int i = 0; i < RAM_SIZES.length; i++) {
                LinkScript x = inPhase(phase, ROM_SIZES[i], RAM_SIZES[i]);
                for (int addr = -20; addr < 600; addr++) {
                    Feed.ram("phase " + phase, x, addr, inRam(x, addr) ? 255 : -1);
                }
            }
        }
    }

    private static void runByteInFeed() {
        runBytes(LinkScript.PHASE_FEED);
    }

    private static void runByteWhenLinked() {
        runBytes(LinkScript.PHASE_LINKED);
    }

    private static void runByteWhenStarted() {
        runBytes(LinkScript.PHASE_STARTED);
    }

    private static void addressesFarOutside() {
        for (int phase = LinkScript.PHASE_FEED; phase <= LinkScript.PHASE_STARTED; phase++) {
            LinkScript x = inPhase(phase, 128, 128);
            for (int addr : FAR) {
                Feed.rom("phase " + phase, x, addr, -1);
                Feed.ram("phase " + phase, x, addr, -1);
                Feed.run("phase " + phase, x, addr, -1);
            }
        }
    }

    private static void runByteAroundASection() {
        LinkScript x = new LinkScript(32, 32);
        Feed.stmt(x, LinkScript.OP_DOT_ADD, 2, 1);
        Feed.section(x, 1, 1, LinkScript.OP_KEEP, 0);
        Feed.bytes(x, LinkScript.KIND_DATA, 0, 1, 7, 8);
        Feed.link(x, true);
        Feed.run("vma - 1 to vma + size", x, 257, 255, 7, 8, 255);
        Feed.start(x);
        Feed.run("vma - 1 to vma + size", x, 257, 255, 7, 8, 255);
    }

    private static void runByteAroundANoloadSection() {
        LinkScript x = new LinkScript(32, 32);
        Feed.stmt(x, LinkScript.OP_DOT_ADD, 2, 1);
        Feed.section(x, 1, 0, LinkScript.OP_KEEP, 0);
        Feed.bss(x, 0, 1, 2);
        Feed.link(x, true);
        Feed.run("vma - 1 to vma + size", x, 257, 255, 0, 0, 255);
        Feed.start(x);
        Feed.run("vma - 1 to vma + size", x, 257, 255, 0, 0, 255);
    }

    private static void runByteAroundAGroup() {
        LinkScript x = new LinkScript(32, 32);
        Feed.stmt(x, LinkScript.OP_DOT_ADD, 1, 1);
        Feed.openGroup(x);
        Feed.section(x, 1, 1, LinkScript.OP_KEEP, 0);
        Feed.section(x, 1, 1, LinkScript.OP_KEEP, 1);
        Feed.endGroup(x);
        Feed.bytes(x, LinkScript.KIND_DATA, 0, 2, 7, 8);
        Feed.bytes(x, LinkScript.KIND_DATA, 1, 1, 1, 2, 3, 4);
        Feed.link(x, true);
        Feed.run("the first member", x, 256, 255, 0, 7, 8, 0, 255);
        Feed.start(x);
        Feed.run("the first member", x, 256, 255, 0, 7, 8, 0, 255);
        Feed.load(x, 1);
        Feed.run("the second member", x, 256, 255, 1, 2, 3, 4, 255);
    }

    private static void runByteOfAGroupWithoutMembers() {
        LinkScript x = new LinkScript(32, 32);
        Feed.stmt(x, LinkScript.OP_DOT_ADD, 3, 1);
        Feed.openGroup(x);
        Feed.endGroup(x);
        Feed.link(x, true);
        for (int i = 0; i < 32; i++) {
            Feed.run("an empty span", x, 256 + i, 255);
        }
    }

    private static void runImageStandsBeforeStartup() {
        LinkScript x = Overlays.linked();
        Feed.ram("not yet copied", x, 256, 255, 255);
        Feed.run("the run image", x, 256, 11, 12);
    }

    private static void gettersChangeNothing() {
        LinkScript[] phases = {fed(), Overlays.linked(), Overlays.started()};
        for (LinkScript x : phases) {
            State before = State.of(x);
            for (int addr : FAR) {
                x.romByte(addr);
                x.ramByte(addr);
                x.runByte(addr);
            }
            before.isStill("after the getters", x);
        }
    }

    private static LinkScript fed() {
        LinkScript x = new LinkScript(32, 32);
        Feed.section(x, 1, 1, LinkScript.OP_KEEP, 0);
        Feed.bytes(x, LinkScript.KIND_DATA, 0, 1, 7, 8);
        return x;
    }
}
