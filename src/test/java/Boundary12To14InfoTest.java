/** Promises 12 to 14: each index and field just inside and just outside its bounds, in every phase. */
public final class Boundary12To14InfoTest {
    private static final int LOW = Integer.MIN_VALUE;
    private static final int HIGH = Integer.MAX_VALUE;
    private static final int[] FAR = {LOW, LOW + 1, -256, -2, -1, 16, 17, 32, 256, HIGH - 1, HIGH};

    public static void main(String[] args) {
        outInfoInFeed();
        outInfoOfNoSection();
        outInfoOfNoField();
        outInfoOfTheLastSection();
        outInfoOfANonMember();
        outInfoOfAMember();
        inInfoOfNoSection();
        inInfoOfNoField();
        inInfoOfTheLastSection();
        fields0To3InAnyPhase();
        sizeIsTheCurrentSize();
        fields4To8InFeed();
        fields4To8OfAnUnassignedSection();
        fields4To8OfACollectedSection();
        fields4To8OfALiveSection();
        infoCountsAcceptedCallsAlone();
        infoCountsToTheCapacities();
        countersInFeedAreMinus1();
        countersAreTheFinalOnes();
        infoOfNoField();
        gettersChangeNothing();
        Check.finish();
    }

    private static LinkScript fed() {
        LinkScript x = new LinkScript(32, 32);
        Feed.section(x, 0, 1, LinkScript.OP_KEEP, 0);
        Feed.section(x, 1, 1, LinkScript.OP_INPUT, 1);
        Feed.bytes(x, LinkScript.KIND_TEXT, 0, 2, 1, 2, 3);
        Feed.bytes(x, LinkScript.KIND_DATA, 1, 4, 4);
        Feed.bss(x, 9, 16, 77);
        return x;
    }

    private static LinkScript linked() {
        LinkScript x = fed();
        Feed.link(x, true);
        return x;
    }

    private static LinkScript started() {
        LinkScript x = linked();
        Feed.start(x);
        return x;
    }

    private static void outInfoInFeed() {
        LinkScript x = fed();
        for (int k = -1; k <= 8; k++) {
            for (int f = -1; f <= 10; f++) {
                Check.due("feed: outInfo(" + k + ", " + f + ")", x.outInfo(k, f), -1);
            }
        }
        Check.due("too large", refusedLink(x), LinkScript.ERR_OVERFLOW);
        for (int f = 0; f <= 9; f++) {
            Check.due("link refused: outInfo(0, " + f + ")", x.outInfo(0, f), -1);
        }
    }

    private static int refusedLink(LinkScript x) {
        Feed.section(x, 1, 0, LinkScript.OP_INPUT, 9);
        return x.link(false);
    }

    private static void outInfoOfNoSection() {
        LinkScript[] objects = {linked(), started()};
        for (LinkScript x : objects) {
            for (int f = 0; f <= 9; f++) {
                for (int k = 2; k <= 8; k++) {
                    Check.due("two sections: outInfo(" + k + ", " + f + ")", x.outInfo(k, f), -1);
                }
                for (int k : FAR) {
                    Check.due("two sections: outInfo(" + k + ", " + f + ")", x.outInfo(k, f), -1);
                }
                Check.due("no section: outInfo(0, " + f + ")", Feed.linked().outInfo(0, f), -1);
            }
        }
    }

    private static void outInfoOfNoField() {
        LinkScript[] objects = {linked(), started()};
        int[] fields = {10, 11, 12, 13, 14, 15};
        for (LinkScript x : objects) {
            for (int f : fields) {
                Check.due("outInfo(1, " + f + ")", x.outInfo(1, f), -1);
            }
            for (int f : FAR) {
                Check.due("outInfo(1, " + f + ")", x.outInfo(1, f), -1);
            }
        }
    }

    private static void outInfoOfTheLastSection() {
        LinkScript x = Overlays.linked();
        Feed.out("section 0", x, 0, 0, 0, 3, 0, 1, -1, 0, 1, -1, -1);
        Feed.out("section 7", x, 7, 271, 271, 2, 1, 0, 2, 1, 1, 271, 273);
        Feed.out("section 8", x, 8, -1, -1, -1, -1, -1, -1, -1, -1, -1, -1);
    }

    private static void outInfoOfANonMember() {
        LinkScript[] objects = {Overlays.linked(), Overlays.started()};
        int[] nonMembers = {0, 1, 4};
        for (LinkScript x : objects) {
            for (int k : nonMembers) {
                Check.due("group of " + k, x.outInfo(k, LinkScript.OUT_GROUP), -1);
                Check.due("resident " + k, x.outInfo(k, LinkScript.OUT_RESIDENT), 0);
                Check.due("span of " + k, x.outInfo(k, LinkScript.OUT_SPAN_START), -1);
                Check.due("span of " + k, x.outInfo(k, LinkScript.OUT_SPAN_END), -1);
            }
        }
    }

    private static void outInfoOfAMember() {
        int[] members = {2, 3, 5, 6, 7};
        int[] groups = {0, 0, 1, 1, 2};
        int[] starts = {260, 260, 267, 267, 271};
        int[] ends = {264, 264, 271, 271, 273};
        LinkScript[] objects = {Overlays.linked(), Overlays.started()};
        for (LinkScript x : objects) {
            for (int i = 0; i < members.length; i++) {
                int k = members[i];
                Check.due("group of " + k, x.outInfo(k, LinkScript.OUT_GROUP), groups[i]);
                Check.due("span of " + k, x.outInfo(k, LinkScript.OUT_SPAN_START), starts[i]);
                Check.due("span of " + k, x.outInfo(k, LinkScript.OUT_SPAN_END), ends[i]);
            }
        }
    }

    private static void inInfoOfNoSection() {
        LinkScript[] objects = {fed(), linked(), started()};
        for (LinkScript x : objects) {
            for (int f = 0; f <= 8; f++) {
                for (int s = 3; s <= 16; s++) {
                    Check.due("three sections: inInfo(" + s + ", " + f + ")", x.inInfo(s, f), -1);
                }
                for (int s : FAR) {
                    Check.due("three sections: inInfo(" + s + ", " + f + ")", x.inInfo(s, f), -1);
                }
                Check.due("no section: inInfo(0, " + f + ")", Feed.linked().inInfo(0, f), -1);
            }
        }
    }

    private static void inInfoOfNoField() {
        LinkScript[] objects = {fed(), linked(), started()};
        int[] fields = {9, 10, 11, 12, 13, 14, 15};
        for (LinkScript x : objects) {
            for (int f : fields) {
                Check.due("inInfo(0, " + f + ")", x.inInfo(0, f), -1);
            }
            for (int f : FAR) {
                Check.due("inInfo(0, " + f + ")", x.inInfo(0, f), -1);
            }
        }
    }

    private static void inInfoOfTheLastSection() {
        LinkScript x = new LinkScript(32, 32);
        Feed.section(x, 0, 1, LinkScript.OP_KEEP, 15);
        for (int s = 0; s < LinkScript.MAX_IN; s++) {
            Feed.bytes(x, LinkScript.KIND_TEXT, s, 8, s);
        }
        Check.due("section 15", x.inInfo(15, LinkScript.IN_ID), 15);
        Check.due("section 16", x.inInfo(16, LinkScript.IN_ID), -1);
        Feed.link(x, true);
        Feed.in("section 15", x, 15, 1, 1, 0, 0, 0);
        Feed.in("section 14", x, 14, -1, 0, -1, -1, -1);
        Feed.in("section 16", x, 16, -1, -1, -1, -1, -1);
    }

    private static void fields0To3InAnyPhase() {
        int[][] want = {{1, 0, 2, 3}, {2, 1, 4, 1}, {3, 9, 16, 77}};
        LinkScript[] objects = {fed(), linked(), started()};
        for (LinkScript x : objects) {
            for (int s = 0; s < want.length; s++) {
                for (int f = 0; f <= LinkScript.IN_SIZE; f++) {
                    Check.due("inInfo(" + s + ", " + f + ")", x.inInfo(s, f), want[s][f]);
                }
            }
        }
    }

    private static void sizeIsTheCurrentSize() {
        LinkScript x = new LinkScript(32, 32);
        Feed.bytes(x, LinkScript.KIND_DATA, 0, 1);
        for (int size = 0; size < 5; size++) {
            Check.due("size", x.inInfo(0, LinkScript.IN_SIZE), size);
            x.addByte(1);
        }
    }

    private static void fields4To8InFeed() {
        LinkScript x = fed();
        for (int s = 0; s < 3; s++) {
            Feed.in("feed", x, s, -1, -1, -1, -1, -1);
        }
        Check.due("too large", refusedLink(x), LinkScript.ERR_OVERFLOW);
        for (int s = 0; s < 3; s++) {
            Feed.in("link refused", x, s, -1, -1, -1, -1, -1);
        }
    }

    private static void fields4To8OfAnUnassignedSection() {
        Feed.in("linked", linked(), 2, -1, 0, -1, -1, -1);
        Feed.in("started", started(), 2, -1, 0, -1, -1, -1);
    }

    private static void fields4To8OfACollectedSection() {
        Feed.in("linked", linked(), 1, 4, 0, -1, -1, -1);
        Feed.in("started", started(), 1, 4, 0, -1, -1, -1);
    }

    private static void fields4To8OfALiveSection() {
        Feed.in("linked", linked(), 0, 1, 1, 0, 0, 0);
        Feed.in("started", started(), 0, 1, 1, 0, 0, 0);
        LinkScript x = fed();
        Feed.link(x, false);
        Feed.in("all are live", x, 1, 4, 1, 1, 256, 4);
        LinkScript y = Overlays.started();
        Feed.load(y, 3);
        Feed.in("a member swapped out", y, 2, 9, 1, 2, 260, 5);
        Feed.in("a member swapped in", y, 3, 12, 1, 3, 260, 10);
    }

    private static void counts(String when, LinkScript x, int... values) {
        for (int i = 0; i < values.length; i++) {
            Feed.info(when, x, LinkScript.INFO_STMTS + i, values[i]);
        }
    }

    private static void infoCountsAcceptedCallsAlone() {
        LinkScript x = fed();
        counts("fed", x, 6, 2, 3, 4, 0, 0, 32, 32);
        x.script(LinkScript.OP_SECTION, 0, 0);
        x.script(LinkScript.OP_OVERLAY_END, 0, 0);
        x.beginSection(LinkScript.KIND_TEXT, 16, 1, 0);
        x.addByte(1);
        x.addReloc(0, LinkScript.R_ABS16, 0, 0);
        counts("all refused", x, 6, 2, 3, 4, 0, 0, 32, 32);
        Feed.link(x, true);
        x.script(LinkScript.OP_OVERLAY, 0, 0);
        x.beginSection(LinkScript.KIND_TEXT, 0, 1, 0);
        counts("linked", x, 6, 2, 3, 4, 0, 0, 32, 32);
        Feed.start(x);
        x.script(LinkScript.OP_SECTION, 0, 1);
        x.addByte(1);
        counts("started", x, 6, 2, 3, 4, 0, 0, 32, 32);
    }

    private static void infoCountsToTheCapacities() {
        LinkScript x = new LinkScript(128, 128);
        for (int g = 0; g < LinkScript.MAX_GROUPS; g++) {
            Feed.openGroup(x);
            Feed.endGroup(x);
        }
        for (int k = 0; k < LinkScript.MAX_OUT; k++) {
            Feed.section(x, 1, 1, LinkScript.OP_INPUT, k);
        }
        for (int s = 0; s < LinkScript.MAX_IN; s++) {
            Feed.filled(x, LinkScript.KIND_DATA, s, 1, 16, s);
            Feed.reloc(x, 0, LinkScript.R_ABS16, 0, 0);
            Feed.reloc(x, 14, LinkScript.R_ABS16, 0, 0);
        }
        counts("full", x, 32, 8, 16, 256, 32, 4, 128, 128);
        Feed.link(x, false);
        counts("full", x, 32, 8, 16, 256, 32, 4, 128, 128, 128, 384);
    }

    private static void countersInFeedAreMinus1() {
        LinkScript x = fed();
        Feed.info("feed", x, LinkScript.INFO_ROM_COUNTER, -1);
        Feed.info("feed", x, LinkScript.INFO_RAM_COUNTER, -1);
        Check.due("too large", refusedLink(x), LinkScript.ERR_OVERFLOW);
        Feed.info("link refused", x, LinkScript.INFO_ROM_COUNTER, -1);
        Feed.info("link refused", x, LinkScript.INFO_RAM_COUNTER, -1);
    }

    private static void countersAreTheFinalOnes() {
        LinkScript x = fed();
        Feed.stmt(x, LinkScript.OP_DOT_ADD, 7, 0);
        Feed.stmt(x, LinkScript.OP_DOT_ALIGN, 16, 1);
        Feed.link(x, false);
        Feed.info("linked", x, LinkScript.INFO_ROM_COUNTER, 12);
        Feed.info("linked", x, LinkScript.INFO_RAM_COUNTER, 272);
        Feed.start(x);
        Feed.info("started", x, LinkScript.INFO_ROM_COUNTER, 12);
        Feed.info("started", x, LinkScript.INFO_RAM_COUNTER, 272);
    }

    private static void infoOfNoField() {
        LinkScript[] objects = {fed(), linked(), started()};
        int[] fields = {11, 12, 13, 14, 15};
        for (LinkScript x : objects) {
            for (int f : fields) {
                Feed.info("no field", x, f, -1);
            }
            for (int f : FAR) {
                Feed.info("no field", x, f, -1);
            }
        }
    }

    private static void gettersChangeNothing() {
        LinkScript[] objects = {fed(), linked(), started()};
        for (LinkScript x : objects) {
            State before = State.of(x);
            for (int i : FAR) {
                for (int f : FAR) {
                    x.outInfo(i, f);
                    x.inInfo(i, f);
                    x.info(f);
                }
            }
            before.isStill("after the getters", x);
        }
    }
}
