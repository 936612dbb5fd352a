/** Promise 5: each sentence that names a boundary. */
public final class Boundary05AddRelocTest {
    private static final int TEXT = LinkScript.KIND_TEXT;
    private static final int DATA = LinkScript.KIND_DATA;
    private static final int LOW = Integer.MIN_VALUE;
    private static final int HIGH = Integer.MAX_VALUE;

    public static void main(String[] args) {
        condition1PhaseNotFeed();
        condition2NoCurrentSection();
        condition2CurrentSectionIsBss();
        condition2BeforeArguments();
        condition2BeforeFull();
        typeNot1To3();
        offsetNot0ToSizeMinus2();
        fewerThan2BytesTakeNoRelocation();
        sizeAtTheTimeOfTheCall();
        sizeOfTheCurrentSection();
        targetNot0To15();
        addendNotMinus256To255();
        condition3BeforeFull();
        relocation32IsTheLastInOneSection();
        relocation32IsTheLastInAllSections();
        targetNeedNotBeFedYet();
        targetThatIsNeverFed();
        feedingOrderIsKept();
        Check.finish();
    }

    private static void answers(String when, LinkScript x, int offset, int type, int target, int addend,
            int want) {
        int before = x.info(LinkScript.INFO_RELOCS);
        Check.due(when + ": addReloc(" + offset + ", " + type + ", " + target + ", " + addend + ")",
                x.addReloc(offset, type, target, addend), want);
        Feed.info(when, x, LinkScript.INFO_RELOCS, want == LinkScript.OK ? before + 1 : before);
    }

    private static LinkScript withBytes(int size) {
        LinkScript x = new LinkScript(64, 64);
        Feed.filled(x, DATA, 0, 1, size, 9);
        return x;
    }

    private static void alone(String when, int offset, int type, int target, int addend, boolean right) {
        answers(when, withBytes(4), offset, type, target, addend, right ? LinkScript.OK : LinkScript.ERR_ARG);
    }

    private static void condition1PhaseNotFeed() {
        LinkScript[] objects = {Feed.linked(), Feed.started(), Overlays.linked(), Overlays.started()};
        for (LinkScript x : objects) {
            answers("not FEED", x, 0, 1, 0, 0, LinkScript.ERR_STATE);
            answers("not FEED", x, -1, 0, 16, 256, LinkScript.ERR_STATE);
        }
        LinkScript fed = withBytes(4);
        Feed.link(fed, false);
        answers("not FEED", fed, 0, 1, 0, 0, LinkScript.ERR_STATE);
    }

    private static void condition2NoCurrentSection() {
        LinkScript x = new LinkScript(64, 64);
        answers("nothing fed", x, 0, 1, 0, 0, LinkScript.ERR_CONTEXT);
    }

    private static void condition2CurrentSectionIsBss() {
        LinkScript x = withBytes(8);
        Feed.bss(x, 0, 1, 0);
        answers("BSS of 0", x, 0, 1, 0, 0, LinkScript.ERR_CONTEXT);
        Feed.bss(x, 0, 1, 128);
        answers("BSS of 128", x, 0, 1, 0, 0, LinkScript.ERR_CONTEXT);
    }

    private static void condition2BeforeArguments() {
        LinkScript x = new LinkScript(64, 64);
        answers("nothing fed", x, 0, 0, 0, 0, LinkScript.ERR_CONTEXT);
        answers("nothing fed", x, 0, 1, 16, 0, LinkScript.ERR_CONTEXT);
        Feed.bss(x, 0, 1, 8);
        answers("BSS", x, -1, 1, 0, 0, LinkScript.ERR_CONTEXT);
        answers("BSS", x, 0, 1, 0, 256, LinkScript.ERR_CONTEXT);
    }

    private static LinkScript withRelocs() {
        LinkScript x = withBytes(4);
        for (int r = 0; r < LinkScript.MAX_RELOCS; r++) {
            answers("relocation " + r, x, 0, 1, 0, r, LinkScript.OK);
        }
        return x;
    }

    private static void condition2BeforeFull() {
        LinkScript x = withRelocs();
        Feed.bss(x, 0, 1, 8);
        answers("32 relocations, BSS", x, 0, 1, 0, 0, LinkScript.ERR_CONTEXT);
    }

    private static void typeNot1To3() {
        int[] types = {LOW, -1, 0, 1, 2, 3, 4, 5, HIGH};
        for (int type : types) {
            alone("type", 0, type, 0, 0, type >= 1 && type <= 3);
        }
    }

    private static void offsetNot0ToSizeMinus2() {
        int[] sizes = {2, 3, 4, 128, 255, 256};
        for (int size : sizes) {
            LinkScript x = withBytes(size);
            answers("size " + size, x, 0, 1, 0, 0, LinkScript.OK);
            answers("size " + size, x, size - 2, 1, 0, 0, LinkScript.OK);
            answers("size " + size, x, -1, 1, 0, 0, LinkScript.ERR_ARG);
            answers("size " + size, x, size - 1, 1, 0, 0, LinkScript.ERR_ARG);
            answers("size " + size, x, size, 1, 0, 0, LinkScript.ERR_ARG);
            answers("size " + size, x, LOW, 1, 0, 0, LinkScript.ERR_ARG);
            answers("size " + size, x, HIGH, 1, 0, 0, LinkScript.ERR_ARG);
        }
    }

    private static void fewerThan2BytesTakeNoRelocation() {
        for (int size = 0; size < 2; size++) {
            LinkScript x = withBytes(size);
            for (int offset = -3; offset <= 3; offset++) {
                answers("size " + size, x, offset, 1, 0, 0, LinkScript.ERR_ARG);
            }
        }
    }

    private static void sizeAtTheTimeOfTheCall() {
        LinkScript x = withBytes(2);
        answers("size 2", x, 1, 1, 0, 0, LinkScript.ERR_ARG);
        x.addByte(1);
        answers("size 3", x, 1, 1, 0, 0, LinkScript.OK);
        answers("size 3", x, 2, 1, 0, 0, LinkScript.ERR_ARG);
    }

    private static void sizeOfTheCurrentSection() {
        LinkScript x = withBytes(9);
        Feed.bytes(x, TEXT, 0, 1, 1, 2, 3);
        answers("nine bytes, then three", x, 1, 1, 0, 0, LinkScript.OK);
        answers("nine bytes, then three", x, 2, 1, 0, 0, LinkScript.ERR_ARG);
    }

    private static void targetNot0To15() {
        int[] targets = {LOW, -2, -1, 0, 1, 14, 15, 16, 17, HIGH};
        for (int target : targets) {
            alone("target", 0, 1, target, 0, target >= 0 && target <= 15);
        }
    }

    private static void addendNotMinus256To255() {
        int[] addends = {LOW, -258, -257, -256, -255, 0, 254, 255, 256, 257, HIGH};
        for (int addend : addends) {
            alone("addend", 0, 1, 0, addend, addend >= -256 && addend <= 255);
        }
    }

    private static void condition3BeforeFull() {
        LinkScript x = withRelocs();
        answers("32 relocations", x, 3, 1, 0, 0, LinkScript.ERR_ARG);
        answers("32 relocations", x, -1, 1, 0, 0, LinkScript.ERR_ARG);
        answers("32 relocations", x, 0, 4, 0, 0, LinkScript.ERR_ARG);
        answers("32 relocations", x, 0, 1, 16, 0, LinkScript.ERR_ARG);
        answers("32 relocations", x, 0, 1, 0, 256, LinkScript.ERR_ARG);
        Feed.bytes(x, TEXT, 0, 1, 1);
        answers("32 relocations, size 1", x, 0, 1, 0, 0, LinkScript.ERR_ARG);
    }

    private static void relocation32IsTheLastInOneSection() {
        LinkScript x = withRelocs();
        answers("32 relocations", x, 0, 1, 0, 0, LinkScript.ERR_FULL);
        Feed.info("32 relocations", x, LinkScript.INFO_RELOCS, 32);
    }

    private static void relocation32IsTheLastInAllSections() {
        LinkScript x = new LinkScript(64, 64);
        Feed.section(x, LinkScript.REGION_ROM, 1, LinkScript.OP_KEEP, -1);
        for (int s = 0; s < LinkScript.MAX_IN; s++) {
            Feed.bytes(x, TEXT, 0, 1, 8, 8);
            answers("section " + s, x, 0, 1, 0, 99, LinkScript.OK);
            answers("section " + s, x, 0, 1, 0, s, LinkScript.OK);
        }
        answers("32 relocations", x, 0, 1, 0, 77, LinkScript.ERR_FULL);
        Feed.link(x, true);
        for (int s = 0; s < LinkScript.MAX_IN; s++) {
            Feed.rom("all 32 are kept", x, 2 * s, s, 0);
        }
    }

    private static void targetNeedNotBeFedYet() {
        LinkScript x = new LinkScript(64, 64);
        Feed.section(x, LinkScript.REGION_ROM, 1, LinkScript.OP_KEEP, -1);
        Feed.bytes(x, TEXT, 0, 1, 8, 8);
        answers("only section 0 is fed", x, 0, 1, 15, 0, LinkScript.OK);
        for (int s = 1; s < LinkScript.MAX_IN; s++) {
            Feed.bytes(x, TEXT, 0, 1, s);
        }
        Feed.link(x, true);
        Feed.rom("the address of section 15", x, 0, 16, 0, 1);
    }

    private static void targetThatIsNeverFed() {
        LinkScript x = new LinkScript(64, 64);
        Feed.section(x, LinkScript.REGION_ROM, 1, LinkScript.OP_KEEP, 1);
        Feed.bytes(x, TEXT, 2, 1, 8, 8);
        answers("it is taken", x, 0, 1, 15, 0, LinkScript.OK);
        Feed.link(x, false);
    }

    private static void feedingOrderIsKept() {
        LinkScript x = new LinkScript(64, 64);
        Feed.section(x, LinkScript.REGION_ROM, 1, LinkScript.OP_KEEP, 0);
        Feed.bytes(x, TEXT, 0, 1, 8, 8, 8, 8);
        answers("order", x, 2, 1, 0, 30, LinkScript.OK);
        answers("order", x, 1, 1, 0, 20, LinkScript.OK);
        answers("order", x, 0, 1, 0, 10, LinkScript.OK);
        Feed.link(x, false);
        Feed.rom("the last one is whole", x, 0, 10, 0, 0, 0);
    }
}
