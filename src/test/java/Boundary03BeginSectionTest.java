/** Promise 3: each sentence that names a boundary. */
public final class Boundary03BeginSectionTest {
    private static final int TEXT = LinkScript.KIND_TEXT;
    private static final int DATA = LinkScript.KIND_DATA;
    private static final int BSS = LinkScript.KIND_BSS;
    private static final int LOW = Integer.MIN_VALUE;
    private static final int HIGH = Integer.MAX_VALUE;

    public static void main(String[] args) {
        condition1PhaseNotFeed();
        kindNot1To3();
        idNot0To15();
        alignNotAPowerUpTo16();
        bssSizeNot0To128();
        bssSizeIsNotLookedAtForTextAndData();
        condition2BeforeFull();
        section16IsTheLast();
        answerIsTheNumberOfSectionsFedBefore();
        sizeIsBssSizeForBss();
        sizeOfTextAndDataIs0AtTheStart();
        refusedByArgumentKeepsTheCurrentSection();
        refusedByFullKeepsTheCurrentSection();
        refusedKeepsBssCurrent();
        newSectionBecomesCurrent();
        Check.finish();
    }

    private static void answers(String when, LinkScript x, int kind, int id, int align, int size, int want) {
        int before = x.info(LinkScript.INFO_INS);
        Check.due(when + ": beginSection(" + kind + ", " + id + ", " + align + ", " + size + ")",
                x.beginSection(kind, id, align, size), want);
        Feed.info(when, x, LinkScript.INFO_INS, want < 0 ? before : before + 1);
    }

    /** The answer on an object of its own, where a taken section is number 0. */
    private static void alone(String when, int kind, int id, int align, int size, boolean right) {
        answers(when, new LinkScript(64, 64), kind, id, align, size, right ? 0 : LinkScript.ERR_ARG);
    }

    private static void condition1PhaseNotFeed() {
        LinkScript[] objects = {Feed.linked(), Feed.started(), Overlays.linked(), Overlays.started()};
        for (LinkScript x : objects) {
            answers("not FEED", x, TEXT, 0, 1, 0, LinkScript.ERR_STATE);
            answers("not FEED", x, BSS, 0, 1, 129, LinkScript.ERR_STATE);
            answers("not FEED", x, 0, -1, 3, -1, LinkScript.ERR_STATE);
        }
        LinkScript full = filled();
        Feed.link(full, false);
        answers("not FEED, 16 sections", full, TEXT, 0, 1, 0, LinkScript.ERR_STATE);
    }

    private static void kindNot1To3() {
        int[] kinds = {LOW, -1, 0, 1, 2, 3, 4, 5, HIGH};
        for (int kind : kinds) {
            alone("kind", kind, 0, 1, 0, kind >= 1 && kind <= 3);
        }
    }

    private static void idNot0To15() {
        int[] ids = {LOW, -2, -1, 0, 1, 14, 15, 16, 17, HIGH};
        for (int id : ids) {
            for (int kind = TEXT; kind <= BSS; kind++) {
                alone("id", kind, id, 1, 0, id >= 0 && id <= 15);
            }
        }
    }

    private static void alignNotAPowerUpTo16() {
        for (int align = -33; align <= 65; align++) {
            boolean right = align == 1 || align == 2 || align == 4 || align == 8 || align == 16;
            for (int kind = TEXT; kind <= BSS; kind++) {
                alone("align", kind, 0, align, 0, right);
            }
        }
        alone("align", TEXT, 0, LOW, 0, false);
        alone("align", TEXT, 0, HIGH, 0, false);
        alone("align", TEXT, 0, 1 << 30, 0, false);
    }

    private static void bssSizeNot0To128() {
        int[] sizes = {LOW, -2, -1, 0, 1, 127, 128, 129, 256, HIGH};
        for (int size : sizes) {
            alone("bssSize", BSS, 0, 1, size, size >= 0 && size <= 128);
        }
    }

    private static void bssSizeIsNotLookedAtForTextAndData() {
        int[] sizes = {LOW, -1, 0, 128, 129, HIGH};
        for (int size : sizes) {
            alone("bssSize of TEXT", TEXT, 0, 1, size, true);
            alone("bssSize of DATA", DATA, 0, 1, size, true);
        }
    }

    private static LinkScript filled() {
        LinkScript x = new LinkScript(64, 64);
        for (int n = 0; n < LinkScript.MAX_IN; n++) {
            answers("filling", x, TEXT, n, 1, 0, n);
        }
        return x;
    }

    private static void condition2BeforeFull() {
        LinkScript x = filled();
        answers("16 sections", x, 0, 0, 1, 0, LinkScript.ERR_ARG);
        answers("16 sections", x, 4, 0, 1, 0, LinkScript.ERR_ARG);
        answers("16 sections", x, TEXT, 16, 1, 0, LinkScript.ERR_ARG);
        answers("16 sections", x, TEXT, 0, 3, 0, LinkScript.ERR_ARG);
        answers("16 sections", x, BSS, 0, 1, 129, LinkScript.ERR_ARG);
        answers("16 sections", x, BSS, 0, 1, -1, LinkScript.ERR_ARG);
    }

    private static void section16IsTheLast() {
        LinkScript x = filled();
        for (int kind = TEXT; kind <= BSS; kind++) {
            answers("16 sections", x, kind, 0, 1, 0, LinkScript.ERR_FULL);
        }
        Check.due("the last id", x.inInfo(15, LinkScript.IN_ID), 15);
        Check.due("section 16", x.inInfo(16, LinkScript.IN_ID), -1);
    }

    private static void answerIsTheNumberOfSectionsFedBefore() {
        LinkScript x = new LinkScript(64, 64);
        answers("first", x, BSS, 0, 1, 0, 0);
        answers("refused", x, BSS, 0, 1, 129, LinkScript.ERR_ARG);
        answers("second", x, TEXT, 0, 1, 0, 1);
        answers("refused", x, TEXT, -1, 1, 0, LinkScript.ERR_ARG);
        answers("third", x, DATA, 0, 1, 0, 2);
    }

    private static void sizeIsBssSizeForBss() {
        int[] sizes = {0, 1, 127, 128};
        LinkScript x = new LinkScript(64, 64);
        for (int size : sizes) {
            int s = Feed.bss(x, 0, 1, size);
            Check.due("size", x.inInfo(s, LinkScript.IN_SIZE), size);
        }
        Feed.info("they have no bytes", x, LinkScript.INFO_BYTES, 0);
    }

    private static void sizeOfTextAndDataIs0AtTheStart() {
        for (int kind = TEXT; kind <= DATA; kind++) {
            LinkScript x = new LinkScript(64, 64);
            answers("bssSize 77", x, kind, 0, 1, 77, 0);
            Check.due("at the start", x.inInfo(0, LinkScript.IN_SIZE), 0);
            x.addByte(1);
            Check.due("one byte", x.inInfo(0, LinkScript.IN_SIZE), 1);
        }
    }

    private static void refusedByArgumentKeepsTheCurrentSection() {
        int[][] wrong = {{0, 0, 1, 0}, {TEXT, 16, 1, 0}, {DATA, 0, 5, 0}, {BSS, 0, 1, 129}};
        LinkScript x = new LinkScript(64, 64);
        Feed.bytes(x, DATA, 7, 1, 1);
        for (int i = 0; i < wrong.length; i++) {
            int[] w = wrong[i];
            answers("wrong", x, w[0], w[1], w[2], w[3], LinkScript.ERR_ARG);
            Check.due("addByte goes on", x.addByte(2), LinkScript.OK);
            Check.due("size", x.inInfo(0, LinkScript.IN_SIZE), 2 + i);
        }
        Feed.reloc(x, 3, LinkScript.R_ABS16, 0, 0);
    }

    private static void refusedByFullKeepsTheCurrentSection() {
        LinkScript x = filled();
        answers("full", x, BSS, 0, 1, 4, LinkScript.ERR_FULL);
        Check.due("addByte goes on", x.addByte(1), LinkScript.OK);
        Check.due("addByte goes on", x.addByte(2), LinkScript.OK);
        Check.due("size", x.inInfo(15, LinkScript.IN_SIZE), 2);
        Feed.reloc(x, 0, LinkScript.R_ABS16, 0, 0);
    }

    private static void refusedKeepsBssCurrent() {
        LinkScript x = new LinkScript(64, 64);
        Feed.bss(x, 0, 1, 9);
        answers("wrong", x, TEXT, 0, 0, 0, LinkScript.ERR_ARG);
        Check.due("addByte", x.addByte(1), LinkScript.ERR_CONTEXT);
        Check.due("addReloc", x.addReloc(0, 1, 0, 0), LinkScript.ERR_CONTEXT);
    }

    private static void newSectionBecomesCurrent() {
        LinkScript x = new LinkScript(64, 64);
        Feed.bytes(x, TEXT, 0, 1, 1, 2, 3);
        Feed.bytes(x, TEXT, 0, 1, 4);
        Check.due("the first stays", x.inInfo(0, LinkScript.IN_SIZE), 3);
        Check.due("the second grows", x.inInfo(1, LinkScript.IN_SIZE), 1);
        Check.due("the second is too short", x.addReloc(0, 1, 0, 0), LinkScript.ERR_ARG);
    }
}
