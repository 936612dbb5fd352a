/** Promise 2: each sentence that names a boundary. */
public final class Boundary02ScriptTest {
    private static final int SECTION = LinkScript.OP_SECTION;
    private static final int END = LinkScript.OP_END;
    private static final int INPUT = LinkScript.OP_INPUT;
    private static final int KEEP = LinkScript.OP_KEEP;
    private static final int SET = LinkScript.OP_DOT_SET;
    private static final int ADD = LinkScript.OP_DOT_ADD;
    private static final int ALIGN = LinkScript.OP_DOT_ALIGN;
    private static final int OVERLAY = LinkScript.OP_OVERLAY;
    private static final int OVERLAY_END = LinkScript.OP_OVERLAY_END;
    private static final int LOW = Integer.MIN_VALUE;
    private static final int HIGH = Integer.MAX_VALUE;
    private static final int[] NO_OPS = {LOW, -1, 0, 10, 11, HIGH};

    // The four places where a statement can stand.
    private static final int OUTSIDE = 0;
    private static final int IN_SECTION = 1;
    private static final int IN_GROUP = 2;
    private static final int IN_MEMBER = 3;

    public static void main(String[] args) {
        condition1PhaseNotFeed();
        condition2OpNotIn1To9();
        condition2BeforeFull();
        condition3BeforeOperands();
        condition3BeforeFull();
        condition4BeforeFull();
        sectionOperands();
        sectionOperandsInsideAGroup();
        inputAndKeepOperands();
        dotSetAddress();
        dotAddCount();
        dotAlignment();
        dotOutsideASectionNamesARegion();
        dotInsideASectionLooksAtNoRegion();
        dotInAGroupButInNoSection();
        endLooksAtNoOperand();
        overlayOpsLookAtNoOperand();
        sectionInsideASection();
        groupInsideAGroup();
        statement32IsTheLast();
        section8IsTheLast();
        membersCountAsSections();
        group4IsTheLast();
        onlySectionsAndGroupsHaveAnOwnCapacity();
        groupMayHaveNoMembers();
        firstMemberIsTheLowestNumbered();
        refusedSectionOpensNothing();
        refusedOverlayOpensNothing();
        refusedEndClosesNothing();
        refusedOverlayEndClosesNothing();
        refusedStatementsHaveNoNumber();
        Check.finish();
    }

    private static LinkScript at(int place) {
        LinkScript x = new LinkScript(128, 128);
        if (place >= IN_GROUP) {
            Feed.openGroup(x);
        }
        if (place % 2 == 1) {
            Feed.open(x, 1, 1);
        }
        return x;
    }

    private static LinkScript fullAt(int place) {
        LinkScript x = new LinkScript(128, 128);
        int opening = place == OUTSIDE ? 0 : place == IN_MEMBER ? 2 : 1;
        while (x.info(LinkScript.INFO_STMTS) < LinkScript.MAX_STMTS - opening) {
            Feed.stmt(x, ADD, 0, 0);
        }
        if (place >= IN_GROUP) {
            Feed.openGroup(x);
        }
        if (place % 2 == 1) {
            Feed.open(x, 1, 1);
        }
        Feed.info("full", x, LinkScript.INFO_STMTS, 32);
        return x;
    }

    private static void answers(String when, LinkScript x, int op, int a, int b, int want) {
        int before = x.info(LinkScript.INFO_STMTS);
        Check.due(when + ": script(" + op + ", " + a + ", " + b + ")", x.script(op, a, b), want);
        Feed.info(when, x, LinkScript.INFO_STMTS, want == LinkScript.OK ? before + 1 : before);
    }

    private static void condition1PhaseNotFeed() {
        LinkScript[] objects = {Feed.linked(), Feed.started(), Overlays.linked(), Overlays.started()};
        for (LinkScript x : objects) {
            for (int op = -1; op <= 10; op++) {
                answers("not FEED", x, op, 1, 1, LinkScript.ERR_STATE);
                answers("not FEED", x, op, LOW, HIGH, LinkScript.ERR_STATE);
            }
            answers("not FEED", x, HIGH, 0, 0, LinkScript.ERR_STATE);
        }
    }

    private static void condition2OpNotIn1To9() {
        for (int place = OUTSIDE; place <= IN_MEMBER; place++) {
            for (int op : NO_OPS) {
                answers("place " + place, at(place), op, 1, 1, LinkScript.ERR_ARG);
            }
        }
        answers("1 is an op", at(OUTSIDE), 1, 1, 1, LinkScript.OK);
        answers("9 is an op", at(IN_GROUP), 9, 1, 1, LinkScript.OK);
    }

    private static void condition2BeforeFull() {
        for (int place = OUTSIDE; place <= IN_MEMBER; place++) {
            for (int op : NO_OPS) {
                answers("full, place " + place, fullAt(place), op, 1, 1, LinkScript.ERR_ARG);
            }
        }
    }

    // For each op the places that do not meet its need.
    private static final int[][] WRONG_PLACES = {
        {IN_SECTION, IN_MEMBER},
        {OUTSIDE, IN_GROUP},
        {OUTSIDE, IN_GROUP},
        {OUTSIDE, IN_GROUP},
        {IN_GROUP},
        {IN_GROUP},
        {IN_GROUP},
        {IN_SECTION, IN_GROUP, IN_MEMBER},
        {OUTSIDE, IN_SECTION, IN_MEMBER},
    };

    private static void condition3BeforeOperands() {
        for (int op = SECTION; op <= OVERLAY_END; op++) {
            for (int place : WRONG_PLACES[op - 1]) {
                answers("place " + place, at(place), op, 1, 1, LinkScript.ERR_CONTEXT);
                answers("place " + place, at(place), op, LOW, LOW, LinkScript.ERR_CONTEXT);
                answers("place " + place, at(place), op, HIGH, HIGH, LinkScript.ERR_CONTEXT);
            }
        }
    }

    private static void condition3BeforeFull() {
        for (int op = SECTION; op <= OVERLAY_END; op++) {
            for (int place : WRONG_PLACES[op - 1]) {
                answers("full, place " + place, fullAt(place), op, 1, 1, LinkScript.ERR_CONTEXT);
            }
        }
    }

    private static void condition4BeforeFull() {
        answers("full", fullAt(OUTSIDE), SECTION, 0, 0, LinkScript.ERR_ARG);
        answers("full", fullAt(IN_GROUP), SECTION, 0, 1, LinkScript.ERR_ARG);
        answers("full", fullAt(IN_SECTION), INPUT, 16, 0, LinkScript.ERR_ARG);
        answers("full", fullAt(IN_SECTION), KEEP, 0, 4, LinkScript.ERR_ARG);
        answers("full", fullAt(IN_SECTION), SET, 1024, 0, LinkScript.ERR_ARG);
        answers("full", fullAt(IN_MEMBER), ADD, 256, 0, LinkScript.ERR_ARG);
        answers("full", fullAt(OUTSIDE), ALIGN, 3, 0, LinkScript.ERR_ARG);
        answers("full", fullAt(OUTSIDE), ALIGN, 4, 2, LinkScript.ERR_ARG);
        LinkScript x = withSections(LinkScript.MAX_OUT);
        answers("eight sections", x, SECTION, 2, 1, LinkScript.ERR_ARG);
        answers("eight sections", x, SECTION, 0, 0, LinkScript.ERR_ARG);
        Feed.openGroup(x);
        answers("eight sections, in a group", x, SECTION, 0, 1, LinkScript.ERR_ARG);
    }

    private static void sectionOperands() {
        int[] values = {LOW, -1, 0, 1, 2, HIGH};
        for (int a : values) {
            for (int b : values) {
                boolean right = a == 0 && b == 1 || a == 1 && (b == 0 || b == 1);
                answers("outside", at(OUTSIDE), SECTION, a, b, right ? LinkScript.OK : LinkScript.ERR_ARG);
            }
        }
    }

    private static void sectionOperandsInsideAGroup() {
        int[] values = {LOW, -1, 0, 1, 2, HIGH};
        for (int a : values) {
            for (int b : values) {
                boolean right = a == 1 && (b == 0 || b == 1);
                answers("in a group", at(IN_GROUP), SECTION, a, b, right ? LinkScript.OK : LinkScript.ERR_ARG);
            }
        }
        LinkScript x = at(IN_GROUP);
        Feed.endGroup(x);
        answers("behind the group", x, SECTION, 0, 1, LinkScript.OK);
    }

    private static void inputAndKeepOperands() {
        int[] ids = {LOW, -2, -1, 0, 1, 15, 16, HIGH};
        int[] kinds = {LOW, -1, 0, 1, 2, 3, 4, HIGH};
        for (int a : ids) {
            for (int b : kinds) {
                boolean right = a >= -1 && a <= 15 && b >= 0 && b <= 3;
                int want = right ? LinkScript.OK : LinkScript.ERR_ARG;
                answers("in a section", at(IN_SECTION), INPUT, a, b, want);
                answers("in a section", at(IN_SECTION), KEEP, a, b, want);
                answers("in a member", at(IN_MEMBER), INPUT, a, b, want);
                answers("in a member", at(IN_MEMBER), KEEP, a, b, want);
            }
        }
    }

    private static void dotOperand(int op, int a, boolean right) {
        int want = right ? LinkScript.OK : LinkScript.ERR_ARG;
        answers("outside", at(OUTSIDE), op, a, 0, want);
        answers("outside", at(OUTSIDE), op, a, 1, want);
        answers("in a section", at(IN_SECTION), op, a, 0, want);
        answers("in a member", at(IN_MEMBER), op, a, 1, want);
    }

    private static void dotSetAddress() {
        int[] values = {LOW, -1, 0, 1, 255, 256, 1022, 1023, 1024, HIGH};
        for (int a : values) {
            dotOperand(SET, a, a >= 0 && a <= 1023);
        }
    }

    private static void dotAddCount() {
        int[] values = {LOW, -1, 0, 1, 254, 255, 256, 1023, HIGH};
        for (int a : values) {
            dotOperand(ADD, a, a >= 0 && a <= 255);
        }
    }

    private static void dotAlignment() {
        for (int a = -33; a <= 65; a++) {
            dotOperand(ALIGN, a, a == 1 || a == 2 || a == 4 || a == 8 || a == 16);
        }
        dotOperand(ALIGN, LOW, false);
        dotOperand(ALIGN, HIGH, false);
        dotOperand(ALIGN, 1 << 30, false);
    }

    private static void dotOutsideASectionNamesARegion() {
        int[] noRegions = {LOW, -1, 2, 3, HIGH};
        for (int op = SET; op <= ALIGN; op++) {
            for (int b : noRegions) {
                answers("no region", at(OUTSIDE), op, 1, b, LinkScript.ERR_ARG);
            }
            answers("ROM", at(OUTSIDE), op, 1, 0, LinkScript.OK);
            answers("RAM", at(OUTSIDE), op, 1, 1, LinkScript.OK);
        }
    }

    private static void dotInsideASectionLooksAtNoRegion() {
        int[] regions = {LOW, -1, 0, 1, 2, HIGH};
        for (int b : regions) {
            LinkScript x = at(IN_SECTION);
            answers("in a section", x, SET, 257, b, LinkScript.OK);
            answers("in a section", x, ADD, 2, b, LinkScript.OK);
            answers("in a section", x, ALIGN, 4, b, LinkScript.OK);
            Feed.end(x);
            Feed.link(x, false);
            Feed.out("the section's dot", x, 0, 256, 0, 4);
            Feed.info("the section's dot", x, LinkScript.INFO_ROM_COUNTER, 4);
            Feed.info("the section's dot", x, LinkScript.INFO_RAM_COUNTER, 260);
            answers("in a member", at(IN_MEMBER), ADD, 2, b, LinkScript.OK);
        }
    }

    private static void dotInAGroupButInNoSection() {
        for (int op = SET; op <= ALIGN; op++) {
            LinkScript x = at(IN_GROUP);
            answers("before the first member", x, op, 1, 1, LinkScript.ERR_CONTEXT);
            Feed.open(x, 1, 1);
            answers("in the member", x, op, 1, 1, LinkScript.OK);
            Feed.end(x);
            answers("behind the first member", x, op, 1, 1, LinkScript.ERR_CONTEXT);
            Feed.endGroup(x);
            answers("behind the group", x, op, 1, 1, LinkScript.OK);
        }
    }

    private static void endLooksAtNoOperand() {
        int[] values = {LOW, -1, 0, 99, HIGH};
        for (int v : values) {
            answers("in a section", at(IN_SECTION), END, v, -v, LinkScript.OK);
            answers("in a member", at(IN_MEMBER), END, -v, v, LinkScript.OK);
        }
    }

    private static void overlayOpsLookAtNoOperand() {
        int[] values = {LOW, -1, 0, 99, HIGH};
        for (int v : values) {
            LinkScript x = at(OUTSIDE);
            answers("outside", x, OVERLAY, v, -v, LinkScript.OK);
            answers("in a group", x, OVERLAY_END, -v, v, LinkScript.OK);
        }
    }

    private static void sectionInsideASection() {
        LinkScript x = at(IN_SECTION);
        answers("still open", x, SECTION, 1, 1, LinkScript.ERR_CONTEXT);
        Feed.end(x);
        answers("closed", x, END, 0, 0, LinkScript.ERR_CONTEXT);
        answers("closed", x, INPUT, 0, 0, LinkScript.ERR_CONTEXT);
        answers("closed", x, SECTION, 1, 1, LinkScript.OK);
    }

    private static void groupInsideAGroup() {
        LinkScript x = at(IN_GROUP);
        answers("still open", x, OVERLAY, 0, 0, LinkScript.ERR_CONTEXT);
        Feed.endGroup(x);
        answers("closed", x, OVERLAY_END, 0, 0, LinkScript.ERR_CONTEXT);
        answers("closed", x, OVERLAY, 0, 0, LinkScript.OK);
        Feed.info("two groups", x, LinkScript.INFO_GROUPS, 2);
    }

    private static void statement32IsTheLast() {
        int[][] allowed = {{SECTION, SET, ADD, ALIGN, OVERLAY}, {END, INPUT, KEEP, SET, ADD, ALIGN},
            {SECTION, OVERLAY_END}, {END, INPUT, KEEP, SET, ADD, ALIGN}};
        for (int place = OUTSIDE; place <= IN_MEMBER; place++) {
            for (int op : allowed[place]) {
                answers("32 statements, place " + place, fullAt(place), op, 1, 1, LinkScript.ERR_FULL);
            }
        }
        LinkScript x = new LinkScript(16, 16);
        for (int i = 0; i < 31; i++) {
            Feed.stmt(x, ADD, 0, 0);
        }
        answers("31 statements", x, ADD, 7, 1, LinkScript.OK);
        answers("32 statements", x, ADD, 8, 1, LinkScript.ERR_FULL);
        Feed.link(x, false);
        Feed.info("the last statement acts", x, LinkScript.INFO_RAM_COUNTER, 263);
    }

    private static LinkScript withSections(int count) {
        LinkScript x = new LinkScript(128, 128);
        for (int k = 0; k < count; k++) {
            Feed.open(x, k % 2, 1);
            Feed.end(x);
        }
        return x;
    }

    private static void section8IsTheLast() {
        answers("seven sections", withSections(7), SECTION, 0, 1, LinkScript.OK);
        LinkScript x = withSections(8);
        answers("eight sections", x, SECTION, 0, 1, LinkScript.ERR_FULL);
        answers("eight sections", x, SECTION, 1, 0, LinkScript.ERR_FULL);
        Feed.info("eight sections", x, LinkScript.INFO_OUTS, 8);
        Feed.link(x, false);
        Check.due("section 7", x.outInfo(7, LinkScript.OUT_REGION), 1);
        Check.due("section 8", x.outInfo(8, LinkScript.OUT_REGION), -1);
    }

    private static void membersCountAsSections() {
        LinkScript x = withSections(6);
        Feed.openGroup(x);
        Feed.open(x, 1, 0);
        Feed.end(x);
        Feed.open(x, 1, 1);
        Feed.end(x);
        answers("the ninth in a group", x, SECTION, 1, 1, LinkScript.ERR_FULL);
        Feed.endGroup(x);
        answers("the ninth behind it", x, SECTION, 1, 1, LinkScript.ERR_FULL);
        Feed.link(x, false);
    }

    private static void group4IsTheLast() {
        LinkScript x = new LinkScript(64, 64);
        for (int g = 0; g < 4; g++) {
            Feed.info("groups", x, LinkScript.INFO_GROUPS, g);
            answers("groups: " + g, x, OVERLAY, 0, 0, LinkScript.OK);
            Feed.endGroup(x);
        }
        answers("four groups", x, OVERLAY, 0, 0, LinkScript.ERR_FULL);
        Feed.info("four groups", x, LinkScript.INFO_GROUPS, 4);
        Feed.link(x, false);
    }

    private static void onlySectionsAndGroupsHaveAnOwnCapacity() {
        int[] inside = {INPUT, KEEP, SET, ADD, ALIGN};
        for (int op : inside) {
            LinkScript x = at(IN_SECTION);
            for (int i = 1; i < LinkScript.MAX_STMTS; i++) {
                answers("statement " + i, x, op, 1, 1, LinkScript.OK);
            }
        }
        LinkScript y = withSections(8);
        for (int g = 0; g < 4; g++) {
            Feed.openGroup(y);
            Feed.endGroup(y);
        }
        for (int i = 24; i < LinkScript.MAX_STMTS; i++) {
            answers("behind all sections and groups", y, ADD, 0, 1, LinkScript.OK);
        }
    }

    private static void groupMayHaveNoMembers() {
        LinkScript x = new LinkScript(64, 64);
        Feed.openGroup(x);
        Feed.endGroup(x);
        Feed.openGroup(x);
        Feed.open(x, 1, 1);
        Feed.end(x);
        Feed.endGroup(x);
        Feed.link(x, false);
        Feed.info("one is empty", x, LinkScript.INFO_GROUPS, 2);
        Check.due("the empty one has its number", x.outInfo(0, LinkScript.OUT_GROUP), 1);
    }

    private static void firstMemberIsTheLowestNumbered() {
        LinkScript x = withSections(2);
        Feed.openGroup(x);
        for (int k = 2; k < 5; k++) {
            Feed.open(x, 1, k % 2);
            Feed.end(x);
        }
        Feed.endGroup(x);
        Feed.link(x, false);
        for (int k = 0; k < 5; k++) {
            Check.due("group of " + k, x.outInfo(k, LinkScript.OUT_GROUP), k < 2 ? -1 : 0);
            Check.due("resident " + k, x.outInfo(k, LinkScript.OUT_RESIDENT), k == 2 ? 1 : 0);
        }
    }

    private static void refusedSectionOpensNothing() {
        LinkScript x = at(OUTSIDE);
        answers("operand", x, SECTION, 0, 0, LinkScript.ERR_ARG);
        answers("not open", x, END, 0, 0, LinkScript.ERR_CONTEXT);
        LinkScript y = withSections(8);
        answers("capacity", y, SECTION, 0, 1, LinkScript.ERR_FULL);
        answers("not open", y, END, 0, 0, LinkScript.ERR_CONTEXT);
        LinkScript z = at(IN_SECTION);
        answers("inside a section", z, SECTION, 0, 1, LinkScript.ERR_CONTEXT);
        Feed.end(z);
        answers("not open", z, END, 0, 0, LinkScript.ERR_CONTEXT);
        LinkScript full = fullAt(OUTSIDE);
        answers("full", full, SECTION, 0, 1, LinkScript.ERR_FULL);
        Feed.info("full", full, LinkScript.INFO_OUTS, 0);
        Feed.link(full, false);
    }

    private static void refusedOverlayOpensNothing() {
        LinkScript x = at(IN_SECTION);
        answers("inside a section", x, OVERLAY, 0, 0, LinkScript.ERR_CONTEXT);
        Feed.end(x);
        answers("not open", x, OVERLAY_END, 0, 0, LinkScript.ERR_CONTEXT);
        Feed.info("not open", x, LinkScript.INFO_GROUPS, 0);
        for (int g = 0; g < 4; g++) {
            Feed.openGroup(x);
            Feed.endGroup(x);
        }
        answers("capacity", x, OVERLAY, 0, 0, LinkScript.ERR_FULL);
        answers("not open", x, OVERLAY_END, 0, 0, LinkScript.ERR_CONTEXT);
        answers("a ROM section is no member", x, SECTION, 0, 1, LinkScript.OK);
        LinkScript full = fullAt(OUTSIDE);
        answers("full", full, OVERLAY, 0, 0, LinkScript.ERR_FULL);
        Feed.info("full", full, LinkScript.INFO_GROUPS, 0);
        Feed.link(full, false);
    }

    private static void refusedEndClosesNothing() {
        LinkScript full = fullAt(IN_SECTION);
        answers("full", full, END, 0, 0, LinkScript.ERR_FULL);
        answers("still open", full, SECTION, 1, 1, LinkScript.ERR_CONTEXT);
        Check.due("still open: link", full.link(false), LinkScript.ERR_SCRIPT);
        LinkScript x = at(IN_GROUP);
        answers("no section", x, END, 0, 0, LinkScript.ERR_CONTEXT);
        answers("the group is still open", x, OVERLAY_END, 0, 0, LinkScript.OK);
    }

    private static void refusedOverlayEndClosesNothing() {
        LinkScript full = fullAt(IN_GROUP);
        answers("full", full, OVERLAY_END, 0, 0, LinkScript.ERR_FULL);
        answers("still open", full, ADD, 0, 0, LinkScript.ERR_CONTEXT);
        Check.due("still open: link", full.link(false), LinkScript.ERR_SCRIPT);
        LinkScript x = at(IN_MEMBER);
        answers("inside the member", x, OVERLAY_END, 0, 0, LinkScript.ERR_CONTEXT);
        answers("the member is still open", x, INPUT, 0, 0, LinkScript.OK);
        Feed.end(x);
        answers("the group is still open", x, OVERLAY, 0, 0, LinkScript.ERR_CONTEXT);
        answers("the group is still open", x, OVERLAY_END, 0, 0, LinkScript.OK);
        LinkScript y = at(IN_SECTION);
        answers("no group", y, OVERLAY_END, 0, 0, LinkScript.ERR_CONTEXT);
        answers("the section is still open", y, END, 0, 0, LinkScript.OK);
    }

    private static void refusedStatementsHaveNoNumber() {
        LinkScript x = new LinkScript(64, 64);
        answers("operand", x, SECTION, 2, 1, LinkScript.ERR_ARG);
        answers("statement 0", x, SECTION, 0, 1, LinkScript.OK);
        answers("op", x, 10, 0, 0, LinkScript.ERR_ARG);
        answers("context", x, OVERLAY, 0, 0, LinkScript.ERR_CONTEXT);
        answers("statement 1", x, INPUT, 1, 0, LinkScript.OK);
        answers("operand", x, INPUT, 16, 0, LinkScript.ERR_ARG);
        answers("statement 2", x, INPUT, 2, 0, LinkScript.OK);
        answers("statement 3", x, END, 0, 0, LinkScript.OK);
        Feed.bytes(x, LinkScript.KIND_TEXT, 2, 1);
        Feed.bytes(x, LinkScript.KIND_TEXT, 1, 1);
        Feed.link(x, false);
        Check.due("statement of id 2", x.inInfo(0, LinkScript.IN_STMT), 2);
        Check.due("statement of id 1", x.inInfo(1, LinkScript.IN_STMT), 1);
    }
}
