/** Promise 8: each sentence that names a boundary. */
public final class Boundary08LoadOverlayTest {
    private static final int RAM = LinkScript.REGION_RAM;
    private static final int KEEP = LinkScript.OP_KEEP;
    private static final int ADD = LinkScript.OP_DOT_ADD;
    private static final int DATA = LinkScript.KIND_DATA;
    private static final int[] FAR = {Integer.MIN_VALUE, -2, -1, 8, 9, Integer.MAX_VALUE};

    public static void main(String[] args) {
        condition1InFeed();
        condition1WhenLinked();
        condition1BeforeCondition2();
        condition2NoOutputSection();
        condition2NoGroupMember();
        condition2BehindTheLastSection();
        condition2GroupWithoutMembers();
        memberShorterThanItsSpan();
        memberAlignedInsideItsSpan();
        emptyMember();
        noloadMember();
        alreadyResident();
        onlyMemberOfItsGroup();
        oneResidentPerGroup();
        otherGroupsDoNotChange();
        otherRamBytesRomAndPhaseDoNotChange();
        eightMembersEachInTurn();
        ramIsTheRunImageAfterEveryLoad();
        Check.finish();
    }

    private static void refused(String when, LinkScript x, int k, int want) {
        State before = State.of(x);
        Check.due(when + ": loadOverlay(" + k + ")", x.loadOverlay(k), want);
        before.isStill(when + ": loadOverlay(" + k + ")", x);
    }

    private static void condition1InFeed() {
        LinkScript x = new LinkScript(32, 32);
        refused("new", x, 0, LinkScript.ERR_STATE);
        Feed.openGroup(x);
        Feed.section(x, RAM, 1, KEEP, 0);
        Feed.endGroup(x);
        refused("a member is fed", x, 0, LinkScript.ERR_STATE);
    }

    private static void condition1WhenLinked() {
        LinkScript x = Overlays.linked();
        for (int k = 0; k < LinkScript.MAX_OUT; k++) {
            refused("linked", x, k, LinkScript.ERR_STATE);
        }
    }

    private static void condition1BeforeCondition2() {
        for (int k : FAR) {
            refused("feed", new LinkScript(32, 32), k, LinkScript.ERR_STATE);
            refused("linked", Overlays.linked(), k, LinkScript.ERR_STATE);
        }
    }

    private static void condition2NoOutputSection() {
        LinkScript x = Overlays.started();
        for (int k : FAR) {
            refused("started", x, k, LinkScript.ERR_ARG);
        }
    }

    private static void condition2NoGroupMember() {
        LinkScript x = Overlays.started();
        refused("a ROM section", x, 0, LinkScript.ERR_ARG);
        refused("a loaded RAM section", x, 1, LinkScript.ERR_ARG);
        refused("a NOLOAD section", x, 4, LinkScript.ERR_ARG);
    }

    private static LinkScript withMembers(int... sizes) {
        LinkScript x = new LinkScript(64, 64);
        Feed.openGroup(x);
        for (int size : sizes) {
            Feed.open(x, RAM, 1);
            Feed.stmt(x, ADD, size, 0);
            Feed.end(x);
        }
        Feed.endGroup(x);
        Feed.link(x, false);
        Feed.start(x);
        return x;
    }

    private static void condition2BehindTheLastSection() {
        LinkScript x = withMembers(1, 2, 3);
        Feed.load(x, 2);
        refused("three sections", x, 3, LinkScript.ERR_ARG);
        refused("three sections", x, -1, LinkScript.ERR_ARG);
        for (int k = 4; k < LinkScript.MAX_OUT; k++) {
            refused("three sections", x, k, LinkScript.ERR_ARG);
        }
    }

    private static void condition2GroupWithoutMembers() {
        LinkScript x = new LinkScript(32, 32);
        Feed.openGroup(x);
        Feed.endGroup(x);
        Feed.section(x, RAM, 1, KEEP, 0);
        Feed.link(x, true);
        Feed.start(x);
        refused("no member", x, 0, LinkScript.ERR_ARG);
        refused("no member", x, 1, LinkScript.ERR_ARG);
    }

    // Bytes of the members 0, 1 and 2 behind one byte of RAM; the align of 2 is 4.
    private static LinkScript three() {
        LinkScript x = new LinkScript(32, 32);
        Feed.stmt(x, ADD, 1, RAM);
        Feed.openGroup(x);
        for (int k = 0; k < 3; k++) {
            Feed.section(x, RAM, 1, KEEP, k);
        }
        Feed.endGroup(x);
        Feed.section(x, RAM, 1, KEEP, 3);
        Feed.bytes(x, DATA, 0, 1, 1, 2, 3, 4, 5, 6);
        Feed.bytes(x, DATA, 1, 1, 11, 12);
        Feed.bytes(x, DATA, 2, 4, 21);
        Feed.bytes(x, DATA, 3, 1, 31);
        Feed.link(x, true);
        Feed.start(x);
        return x;
    }

    private static void ramIs(String when, LinkScript x, int... values) {
        Feed.ram(when, x, 256, values);
        for (int addr = 256 + values.length; addr < 256 + x.info(LinkScript.INFO_RAM_SIZE); addr++) {
            Feed.ram(when, x, addr, 255);
        }
        Overlays.runIsMemory(when, x);
    }

    private static void memberShorterThanItsSpan() {
        LinkScript x = three();
        ramIs("the longest", x, 255, 1, 2, 3, 4, 5, 6, 31);
        Feed.load(x, 1);
        ramIs("zero behind it", x, 255, 11, 12, 0, 0, 0, 0, 31);
    }

    private static void memberAlignedInsideItsSpan() {
        LinkScript x = three();
        Feed.load(x, 2);
        ramIs("zero before and behind it", x, 255, 0, 0, 0, 21, 0, 0, 31);
        Feed.load(x, 0);
        ramIs("the longest again", x, 255, 1, 2, 3, 4, 5, 6, 31);
    }

    private static void emptyMember() {
        LinkScript x = new LinkScript(32, 32);
        Feed.openGroup(x);
        Feed.section(x, RAM, 1, KEEP, 0);
        for (int loaded = 0; loaded <= 1; loaded++) {
            Feed.open(x, RAM, loaded);
            Feed.end(x);
        }
        Feed.endGroup(x);
        Feed.bytes(x, DATA, 0, 1, 5, 6);
        Feed.link(x, true);
        Feed.start(x);
        for (int k = 1; k <= 2; k++) {
            Feed.load(x, k);
            ramIs("the span alone", x, 0, 0);
            Overlays.residentsOf("the span alone", x, 3, k);
            Feed.load(x, 0);
            ramIs("back", x, 5, 6);
        }
    }

    private static void noloadMember() {
        LinkScript x = new LinkScript(32, 32);
        Feed.openGroup(x);
        Feed.section(x, RAM, 1, KEEP, 0);
        Feed.section(x, RAM, 0, KEEP, 1);
        Feed.endGroup(x);
        Feed.bytes(x, DATA, 0, 1, 5, 6);
        Feed.bss(x, 1, 1, 3);
        Feed.link(x, true);
        Feed.start(x);
        ramIs("loaded", x, 5, 6, 0);
        Feed.load(x, 1);
        ramIs("zeroed", x, 0, 0, 0);
    }

    private static void alreadyResident() {
        LinkScript x = three();
        State before = State.of(x);
        Feed.load(x, 0);
        before.isStill("the first member again", x);
        Feed.load(x, 2);
        State swapped = State.of(x);
        Feed.load(x, 2);
        swapped.isStill("the third member again", x);
    }

    private static void onlyMemberOfItsGroup() {
        LinkScript x = withMembers(3);
        State before = State.of(x);
        Feed.load(x, 0);
        before.isStill("the only member", x);
        Overlays.residentsOf("the only member", x, 1, 0);
    }

    private static void oneResidentPerGroup() {
        LinkScript x = Overlays.started();
        Feed.load(x, 3);
        Overlays.residentsAre("3", x, 3, 5, 7);
        Feed.load(x, 6);
        Overlays.residentsAre("6", x, 3, 6, 7);
        Feed.load(x, 2);
        Overlays.residentsAre("2", x, 2, 6, 7);
        Feed.load(x, 7);
        Overlays.residentsAre("7", x, 2, 6, 7);
    }

    private static void otherGroupsDoNotChange() {
        LinkScript x = Overlays.started();
        Feed.load(x, 6);
        Overlays.ramIs("group 1", x, 11, 12, 255, 255, 21, 22, 23, 24, 0, 0, 0, 0, 0, 0, 0, 0, 0);
        Feed.load(x, 5);
        Feed.load(x, 3);
        Overlays.ramIs("group 0", x, 11, 12, 255, 255, 31, 32, 0, 0, 0, 0, 0, 51, 52, 0, 0, 0, 0);
        Feed.load(x, 7);
        Overlays.ramIs("group 2", x, 11, 12, 255, 255, 31, 32, 0, 0, 0, 0, 0, 51, 52, 0, 0, 0, 0);
    }

    private static void otherRamBytesRomAndPhaseDoNotChange() {
        LinkScript x = Overlays.started();
        int[] members = {2, 3, 5, 6, 7};
        for (int k : members) {
            Feed.load(x, k);
            Feed.ram("before the spans", x, 256, 11, 12, 255, 255);
            Feed.ram("between the spans", x, 264, 0, 0, 0);
            Feed.ram("behind the spans", x, 273, 255);
            Overlays.romIs("loaded " + k, x);
            Feed.info("loaded " + k, x, LinkScript.INFO_PHASE, LinkScript.PHASE_STARTED);
        }
    }

    private static void eightMembersEachInTurn() {
        LinkScript x = new LinkScript(128, 16);
        Feed.openGroup(x);
        for (int k = 0; k < LinkScript.MAX_OUT; k++) {
            Feed.section(x, RAM, 1, KEEP, k);
            Feed.filled(x, DATA, k, 1, 16, 10 + k);
        }
        Feed.endGroup(x);
        Feed.link(x, true);
        Feed.start(x);
        for (int k = LinkScript.MAX_OUT - 1; k >= 0; k--) {
            Feed.load(x, k);
            for (int i = 0; i < 16; i++) {
                Feed.ram("member " + k, x, 256 + i, 10 + k);
            }
            Overlays.residentsAre("member " + k, x, k);
        }
    }

    private static void ramIsTheRunImageAfterEveryLoad() {
        LinkScript x = Overlays.started();
        Overlays.runIsMemory("started", x);
        int[] members = {2, 3, 5, 6, 7};
        for (int first : members) {
            for (int second : members) {
                Feed.load(x, first);
                Feed.load(x, second);
                Overlays.runIsMemory("loaded " + first + " and " + second, x);
            }
        }
    }
}
