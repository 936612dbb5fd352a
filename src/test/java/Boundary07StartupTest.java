/** Promise 7: each sentence that names a boundary. */
public final class Boundary07StartupTest {
    private static final int RAM = LinkScript.REGION_RAM;
    private static final int KEEP = LinkScript.OP_KEEP;
    private static final int ADD = LinkScript.OP_DOT_ADD;
    private static final int DATA = LinkScript.KIND_DATA;

    public static void main(String[] args) {
        refusedInFeed();
        refusedWhenStarted();
        everyByteOfEverySpanIsZero();
        spanOfAGroupWithoutMembers();
        spanBeforeAndBehindTheFirstMember();
        emptyFirstMember();
        onlyTheFirstMemberIsCopied();
        noloadFirstMemberIsZeroed();
        loadedSectionIsCopiedToItsLastByte();
        noloadSectionIsZeroedToItsLastByte();
        emptySectionsWriteNothing();
        romSectionsAreNotCopied();
        otherRamBytesKeep255();
        ramIsFullToItsLastByte();
        romPlacementsAndResidencyDoNotChange();
        Check.finish();
    }

    private static void refusedInFeed() {
        LinkScript x = new LinkScript(32, 32);
        Check.due("new: startup", x.startup(), LinkScript.ERR_STATE);
        Feed.section(x, RAM, 0, KEEP, 0);
        Feed.bss(x, 0, 1, 33);
        State before = State.of(x);
        Check.due("fed: startup", x.startup(), LinkScript.ERR_STATE);
        Check.due("too large", x.link(false), LinkScript.ERR_OVERFLOW);
        Check.due("link refused: startup", x.startup(), LinkScript.ERR_STATE);
        before.isStill("link refused", x);
    }

    private static void refusedWhenStarted() {
        LinkScript x = Overlays.started();
        Feed.load(x, 3);
        Feed.load(x, 6);
        State before = State.of(x);
        Check.due("started: startup", x.startup(), LinkScript.ERR_STATE);
        before.isStill("started", x);
    }

    private static LinkScript started(LinkScript x) {
        Feed.link(x, true);
        Feed.start(x);
        Feed.info("started", x, LinkScript.INFO_PHASE, LinkScript.PHASE_STARTED);
        return x;
    }

    private static void ramIs(String when, LinkScript x, int... values) {
        Feed.ram(when, x, 256, values);
        Feed.run(when, x, 256, values);
        for (int addr = 256 + values.length; addr < 256 + x.info(LinkScript.INFO_RAM_SIZE); addr++) {
            Feed.ram(when, x, addr, 255);
            Feed.run(when, x, addr, 255);
        }
    }

    private static void everyByteOfEverySpanIsZero() {
        LinkScript x = new LinkScript(32, 32);
        for (int g = 0; g < LinkScript.MAX_GROUPS; g++) {
            Feed.stmt(x, ADD, 1, RAM);
            Feed.openGroup(x);
            Feed.open(x, RAM, 1);
            Feed.end(x);
            Feed.open(x, RAM, 0);
            Feed.stmt(x, ADD, g + 1, 0);
            Feed.end(x);
            Feed.endGroup(x);
        }
        ramIs("four groups", started(x), 255, 0, 255, 0, 0, 255, 0, 0, 0, 255, 0, 0, 0, 0);
    }

    private static void spanOfAGroupWithoutMembers() {
        LinkScript x = new LinkScript(32, 32);
        Feed.section(x, RAM, 1, KEEP, 0);
        Feed.openGroup(x);
        Feed.endGroup(x);
        Feed.stmt(x, ADD, 1, RAM);
        Feed.section(x, RAM, 1, KEEP, 1);
        Feed.bytes(x, DATA, 0, 1, 5);
        Feed.bytes(x, DATA, 1, 1, 6);
        ramIs("nothing to zero", started(x), 5, 255, 6);
    }

    private static void spanBeforeAndBehindTheFirstMember() {
        LinkScript x = new LinkScript(32, 32);
        Feed.stmt(x, ADD, 1, RAM);
        Feed.openGroup(x);
        Feed.section(x, RAM, 1, KEEP, 0);
        Feed.section(x, RAM, 1, KEEP, 1);
        Feed.endGroup(x);
        Feed.bytes(x, DATA, 0, 4, 5);
        Feed.bytes(x, DATA, 1, 1, 1, 2, 3, 4, 5, 6);
        ramIs("a shorter first member", started(x), 255, 0, 0, 0, 5, 0, 0);
    }

    private static void emptyFirstMember() {
        LinkScript x = new LinkScript(32, 32);
        Feed.openGroup(x);
        Feed.open(x, RAM, 1);
        Feed.end(x);
        Feed.section(x, RAM, 1, KEEP, 0);
        Feed.endGroup(x);
        Feed.bytes(x, DATA, 0, 1, 5, 6);
        ramIs("the span alone", started(x), 0, 0);
    }

    private static void onlyTheFirstMemberIsCopied() {
        LinkScript x = new LinkScript(32, 32);
        Feed.openGroup(x);
        for (int k = 0; k < 3; k++) {
            Feed.section(x, RAM, 1, KEEP, k);
        }
        Feed.endGroup(x);
        Feed.bytes(x, DATA, 2, 1, 21, 22, 23);
        Feed.bytes(x, DATA, 0, 1, 1);
        Feed.bytes(x, DATA, 1, 1, 11, 12);
        ramIs("the lowest-numbered", started(x), 1, 0, 0);
    }

    private static void noloadFirstMemberIsZeroed() {
        LinkScript x = new LinkScript(32, 32);
        Feed.openGroup(x);
        Feed.section(x, RAM, 0, KEEP, 0);
        Feed.section(x, RAM, 1, KEEP, 1);
        Feed.endGroup(x);
        Feed.bss(x, 0, 1, 2);
        Feed.bytes(x, DATA, 1, 1, 5, 6, 7);
        ramIs("NOLOAD", started(x), 0, 0, 0);
    }

    private static void loadedSectionIsCopiedToItsLastByte() {
        LinkScript x = new LinkScript(32, 32);
        Feed.stmt(x, ADD, 2, RAM);
        Feed.section(x, RAM, 1, KEEP, 0);
        Feed.bytes(x, DATA, 0, 1, 1, 2, 3);
        ramIs("three bytes", started(x), 255, 255, 1, 2, 3);
    }

    private static void noloadSectionIsZeroedToItsLastByte() {
        LinkScript x = new LinkScript(32, 32);
        Feed.stmt(x, ADD, 2, RAM);
        Feed.section(x, RAM, 0, KEEP, 0);
        Feed.bss(x, 0, 1, 3);
        ramIs("three bytes", started(x), 255, 255, 0, 0, 0);
    }

    private static void emptySectionsWriteNothing() {
        LinkScript x = new LinkScript(32, 32);
        for (int loaded = 0; loaded <= 1; loaded++) {
            Feed.open(x, RAM, loaded);
            Feed.end(x);
        }
        ramIs("empty", started(x));
    }

    private static void romSectionsAreNotCopied() {
        LinkScript x = new LinkScript(32, 32);
        Feed.section(x, LinkScript.REGION_ROM, 1, KEEP, 0);
        Feed.bytes(x, LinkScript.KIND_TEXT, 0, 1, 1, 2);
        ramIs("ROM alone", started(x));
        Feed.rom("ROM alone", x, 0, 1, 2, 255);
    }

    private static void otherRamBytesKeep255() {
        LinkScript x = new LinkScript(32, 32);
        Feed.section(x, RAM, 1, KEEP, 0);
        Feed.stmt(x, ADD, 2, RAM);
        Feed.section(x, RAM, 0, KEEP, 1);
        Feed.section(x, RAM, 1, KEEP, 2);
        Feed.bytes(x, DATA, 0, 1, 5);
        Feed.bss(x, 1, 1, 1);
        Feed.bytes(x, DATA, 2, 4, 6);
        ramIs("between and behind", started(x), 5, 255, 255, 0, 6);
    }

    private static void ramIsFullToItsLastByte() {
        LinkScript x = new LinkScript(128, 128);
        Feed.section(x, RAM, 1, KEEP, 0);
        Feed.openGroup(x);
        Feed.section(x, RAM, 0, KEEP, 1);
        Feed.endGroup(x);
        Feed.filled(x, DATA, 0, 1, 100, 9);
        Feed.bss(x, 1, 1, 28);
        started(x);
        for (int i = 0; i < 128; i++) {
            Feed.ram("full", x, 256 + i, i < 100 ? 9 : 0);
        }
        Feed.ram("full", x, 384, -1);
    }

    private static void romPlacementsAndResidencyDoNotChange() {
        LinkScript x = Overlays.linked();
        LinkScript y = Overlays.linked();
        Feed.start(y);
        for (int addr = -1; addr <= 64; addr++) {
            Check.due("romByte(" + addr + ")", y.romByte(addr), x.romByte(addr));
        }
        for (int k = 0; k < LinkScript.MAX_OUT; k++) {
            for (int f = LinkScript.OUT_VMA; f <= LinkScript.OUT_SPAN_END; f++) {
                Check.due("outInfo(" + k + ", " + f + ")", y.outInfo(k, f), x.outInfo(k, f));
            }
            for (int f = LinkScript.IN_KIND; f <= LinkScript.IN_LMA; f++) {
                Check.due("inInfo(" + k + ", " + f + ")", y.inInfo(k, f), x.inInfo(k, f));
            }
        }
    }
}
