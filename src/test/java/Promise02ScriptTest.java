public final class Promise02ScriptTest {
    private static final int[] NO_OPS = {Integer.MIN_VALUE, -1, 0, 10, 11, Integer.MAX_VALUE};

    public static void main(String[] args) {
        refusedOutsideFeed();
        unknownOps();
        contexts();
        sectionOperands();
        inputOperands();
        dotOperands();
        operandsNotLookedAt();
        statementCapacity();
        sectionCapacity();
        groupCapacity();
        refusalOpensAndClosesNothing();
        statementsAreNumberedInOrder();
        Check.finish();
    }

    private static void refused(String when, LinkScript x, int op, int a, int b, int want) {
        int before = x.info(LinkScript.INFO_STMTS);
        Check.due(when + ": script(" + op + ", " + a + ", " + b + ")", x.script(op, a, b), want);
        Feed.info(when, x, LinkScript.INFO_STMTS, before);
    }

    private static void refusedOutsideFeed() {
        LinkScript[] objects = {Feed.linked(), Feed.started()};
        for (LinkScript x : objects) {
            for (int op = 0; op <= 10; op++) {
                refused("after link", x, op, 1, 1, LinkScript.ERR_STATE);
            }
        }
    }

    private static void unknownOps() {
        LinkScript x = new LinkScript(64, 64);
        for (int op : NO_OPS) {
            refused("outside", x, op, 0, 0, LinkScript.ERR_ARG);
        }
        Feed.open(x, 1, 1);
        for (int op : NO_OPS) {
            refused("inside a section", x, op, 0, 0, LinkScript.ERR_ARG);
        }
    }

    private static LinkScript at(boolean group, boolean section) {
        LinkScript x = new LinkScript(64, 64);
        if (group) {
            Feed.stmt(x, LinkScript.OP_OVERLAY, 0, 0);
        }
        if (section) {
            Feed.open(x, 1, 1);
        }
        return x;
    }

    private static void contexts() {
        // Per op: outside, inside a section, inside a group, inside a section in a group.
        boolean[][] taken = {
            {true, false, true, false},
            {false, true, false, true},
            {false, true, false, true},
            {false, true, false, true},
            {true, true, false, true},
            {true, true, false, true},
            {true, true, false, true},
            {true, false, false, false},
            {false, false, true, false},
        };
        for (int op = 1; op <= 9; op++) {
            for (int where = 0; where < 4; where++) {
                boolean group = where >= 2;
                boolean section = where % 2 == 1;
                String when = "op " + op + ", group " + group + ", section " + section;
                LinkScript x = at(group, section);
                if (taken[op - 1][where]) {
                    Check.due(when, x.script(op, 1, 1), LinkScript.OK);
                } else {
                    refused(when, x, op, 1, 1, LinkScript.ERR_CONTEXT);
                    // The context is examined before the operands.
                    refused(when, x, op, -9, -9, LinkScript.ERR_CONTEXT);
                }
            }
        }
    }

    private static void sectionOperands() {
        int[][] wrong = {{0, 0}, {0, 2}, {0, -1}, {1, 2}, {1, -1}, {2, 1}, {-1, 1}, {2, 0},
            {Integer.MAX_VALUE, 1}, {1, Integer.MIN_VALUE}};
        for (int[] ab : wrong) {
            refused("outside", at(false, false), 1, ab[0], ab[1], LinkScript.ERR_ARG);
            refused("in a group", at(true, false), 1, ab[0], ab[1], LinkScript.ERR_ARG);
        }
        refused("in a group", at(true, false), 1, 0, 1, LinkScript.ERR_ARG);
        Feed.open(at(false, false), 0, 1);
        Feed.open(at(false, false), 1, 0);
        Feed.open(at(false, false), 1, 1);
        Feed.open(at(true, false), 1, 0);
        Feed.open(at(true, false), 1, 1);
    }

    private static void inputOperands() {
        int[] ids = {-1, 0, 15};
        int[] noIds = {Integer.MIN_VALUE, -2, 16, Integer.MAX_VALUE};
        int[] noKinds = {Integer.MIN_VALUE, -1, 4, Integer.MAX_VALUE};
        for (int op = LinkScript.OP_INPUT; op <= LinkScript.OP_KEEP; op++) {
            LinkScript x = at(false, true);
            for (int id : ids) {
                for (int kind = 0; kind <= 3; kind++) {
                    Feed.stmt(x, op, id, kind);
                }
            }
            for (int id : noIds) {
                refused("id", x, op, id, 0, LinkScript.ERR_ARG);
            }
            for (int kind : noKinds) {
                refused("kind", x, op, 0, kind, LinkScript.ERR_ARG);
            }
        }
    }

    private static void dotOperands() {
        int set = LinkScript.OP_DOT_SET;
        int add = LinkScript.OP_DOT_ADD;
        int align = LinkScript.OP_DOT_ALIGN;
        int[][] right = {{set, 0}, {set, 1023}, {add, 0}, {add, 255},
            {align, 1}, {align, 2}, {align, 4}, {align, 8}, {align, 16}};
        int[][] wrong = {{set, -1}, {set, 1024}, {set, Integer.MIN_VALUE}, {set, Integer.MAX_VALUE},
            {add, -1}, {add, 256}, {add, Integer.MIN_VALUE}, {align, 0}, {align, 3}, {align, 5},
            {align, 6}, {align, 7}, {align, 12}, {align, 15}, {align, 17}, {align, 32}, {align, -1},
            {align, -8}, {align, Integer.MIN_VALUE}};
        LinkScript outside = at(false, false);
        LinkScript inside = at(false, true);
        for (int[] opA : right) {
            Feed.stmt(outside, opA[0], opA[1], 0);
            Feed.stmt(outside, opA[0], opA[1], 1);
            Feed.stmt(inside, opA[0], opA[1], 2);
            Feed.stmt(inside, opA[0], opA[1], Integer.MIN_VALUE);
            refused("no region", outside, opA[0], opA[1], 2, LinkScript.ERR_ARG);
            refused("no region", outside, opA[0], opA[1], -1, LinkScript.ERR_ARG);
        }
        for (int[] opA : wrong) {
            refused("outside", outside, opA[0], opA[1], 0, LinkScript.ERR_ARG);
            refused("inside", inside, opA[0], opA[1], 0, LinkScript.ERR_ARG);
        }
    }

    private static void operandsNotLookedAt() {
        LinkScript x = new LinkScript(64, 64);
        Feed.stmt(x, LinkScript.OP_OVERLAY, -77, Integer.MAX_VALUE);
        Feed.open(x, 1, 0);
        Feed.stmt(x, LinkScript.OP_END, Integer.MIN_VALUE, 99);
        Feed.stmt(x, LinkScript.OP_OVERLAY_END, 4096, -5);
        Feed.link(x, true);
        Feed.out("operands not looked at", x, 0, 256, 256, 0, 1, 0, 0, 1);
    }

    private static void statementCapacity() {
        LinkScript x = new LinkScript(64, 64);
        Feed.open(x, 0, 1);
        for (int i = 1; i < LinkScript.MAX_STMTS; i++) {
            Feed.stmt(x, LinkScript.OP_DOT_ADD, 0, 0);
        }
        Feed.info("full", x, LinkScript.INFO_STMTS, 32);
        refused("full", x, 10, 0, 0, LinkScript.ERR_ARG);
        refused("full", x, LinkScript.OP_SECTION, 0, 1, LinkScript.ERR_CONTEXT);
        refused("full", x, LinkScript.OP_DOT_ADD, 256, 0, LinkScript.ERR_ARG);
        refused("full", x, LinkScript.OP_END, 0, 0, LinkScript.ERR_FULL);
        refused("full", x, LinkScript.OP_INPUT, 0, 0, LinkScript.ERR_FULL);
        Check.due("full: the section stays open", x.link(false), LinkScript.ERR_SCRIPT);
    }

    private static void sectionCapacity() {
        LinkScript x = new LinkScript(64, 64);
        for (int k = 0; k < LinkScript.MAX_OUT; k++) {
            Feed.open(x, k % 2, 1);
            Feed.end(x);
        }
        refused("eight sections", x, LinkScript.OP_SECTION, 0, 1, LinkScript.ERR_FULL);
        refused("eight sections", x, LinkScript.OP_SECTION, 0, 0, LinkScript.ERR_ARG);
        Feed.info("eight sections", x, LinkScript.INFO_OUTS, 8);
        Feed.stmt(x, LinkScript.OP_OVERLAY, 0, 0);
        refused("eight sections, group", x, LinkScript.OP_SECTION, 1, 1, LinkScript.ERR_FULL);
        Feed.stmt(x, LinkScript.OP_OVERLAY_END, 0, 0);
        Feed.stmt(x, LinkScript.OP_DOT_ADD, 1, 1);
        Feed.link(x, false);
        for (int k = 0; k < LinkScript.MAX_OUT; k++) {
            Check.due("region of " + k, x.outInfo(k, LinkScript.OUT_REGION), k % 2);
        }
    }

    private static void groupCapacity() {
        LinkScript x = new LinkScript(64, 64);
        for (int g = 0; g < LinkScript.MAX_GROUPS; g++) {
            Feed.stmt(x, LinkScript.OP_OVERLAY, 0, 0);
            Feed.open(x, 1, 1);
            Feed.end(x);
            Feed.stmt(x, LinkScript.OP_OVERLAY_END, 0, 0);
        }
        refused("four groups", x, LinkScript.OP_OVERLAY, 0, 0, LinkScript.ERR_FULL);
        Feed.info("four groups", x, LinkScript.INFO_GROUPS, 4);
        Feed.open(x, 0, 1);
        refused("four groups, section", x, LinkScript.OP_OVERLAY, 0, 0, LinkScript.ERR_CONTEXT);
        Feed.end(x);
        Feed.link(x, false);
        for (int g = 0; g < LinkScript.MAX_GROUPS; g++) {
            Check.due("group of " + g, x.outInfo(g, LinkScript.OUT_GROUP), g);
        }
        Check.due("group of 4", x.outInfo(4, LinkScript.OUT_GROUP), -1);
    }

    private static void refusalOpensAndClosesNothing() {
        LinkScript x = new LinkScript(64, 64);
        refused("not opened", x, LinkScript.OP_SECTION, 0, 0, LinkScript.ERR_ARG);
        refused("not opened", x, LinkScript.OP_END, 0, 0, LinkScript.ERR_CONTEXT);
        Feed.info("not opened", x, LinkScript.INFO_OUTS, 0);
        Feed.stmt(x, LinkScript.OP_OVERLAY, 0, 0);
        Feed.open(x, 1, 0);
        refused("not closed", x, LinkScript.OP_OVERLAY_END, 0, 0, LinkScript.ERR_CONTEXT);
        Feed.end(x);
        refused("still in the group", x, LinkScript.OP_DOT_ADD, 1, 1, LinkScript.ERR_CONTEXT);
        refused("still in the group", x, LinkScript.OP_OVERLAY, 1, 1, LinkScript.ERR_CONTEXT);
        Feed.info("still in the group", x, LinkScript.INFO_GROUPS, 1);
        Feed.stmt(x, LinkScript.OP_OVERLAY_END, 0, 0);
        refused("group closed", x, LinkScript.OP_OVERLAY_END, 0, 0, LinkScript.ERR_CONTEXT);
        Feed.link(x, false);
    }

    private static void statementsAreNumberedInOrder() {
        LinkScript x = new LinkScript(64, 64);
        Feed.open(x, 0, 1);
        refused("between", x, LinkScript.OP_INPUT, 16, 0, LinkScript.ERR_ARG);
        Feed.stmt(x, LinkScript.OP_INPUT, 3, 0);
        Feed.stmt(x, LinkScript.OP_INPUT, 2, 0);
        Feed.end(x);
        int two = Feed.bytes(x, 1, 2, 1, 5);
        int three = Feed.bytes(x, 1, 3, 1, 6);
        Feed.link(x, false);
        Feed.in("order", x, two, 2, 1, 0, 1, 1);
        Feed.in("order", x, three, 1, 1, 0, 0, 0);
    }
}
