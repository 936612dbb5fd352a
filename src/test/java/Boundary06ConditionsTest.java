/** Promise 6, assignment, live set and conditions 1 to 6: each sentence that names a boundary. */
public final class Boundary06ConditionsTest {
    private static final int ROM = LinkScript.REGION_ROM;
    private static final int RAM = LinkScript.REGION_RAM;
    private static final int INPUT = LinkScript.OP_INPUT;
    private static final int KEEP = LinkScript.OP_KEEP;
    private static final int SET = LinkScript.OP_DOT_SET;
    private static final int ADD = LinkScript.OP_DOT_ADD;
    private static final int TEXT = LinkScript.KIND_TEXT;
    private static final int DATA = LinkScript.KIND_DATA;
    private static final int BSS = LinkScript.KIND_BSS;
    private static final int ABS = LinkScript.R_ABS16;

    public static void main(String[] args) {
        condition1LeavesLinkedAsItWas();
        condition1LeavesStartedAsItWas();
        condition2SectionStillOpen();
        condition2GroupStillOpen();
        everySetOfFaultsIsDecidedByTheFirst();
        lowestNumberedStatementTakes();
        idsAndKindsAtTheirBounds();
        noStatementTakes();
        collectionWithoutRoots();
        collectionOverACycle();
        collectionOverTheLongestChain();
        condition3TargetIsTheNumberOfSections();
        condition3TargetIsTheLastOf16();
        condition3TargetIsUnassigned();
        condition3LooksAtLiveSectionsAlone();
        condition4EmptyTextOrData();
        condition4LooksAtLiveSectionsAlone();
        condition4InAMember();
        condition4BssIsFree();
        condition5OutsideASection();
        condition5InsideASection();
        condition5InAMember();
        condition5BehindWhatMovesACounter();
        condition5StopsTheWalk();
        refusalByEachConditionLeavesEverything();
        linkMayBeCalledAgainAndAgain();
        Check.finish();
    }

    private static void refused(String when, LinkScript x, boolean gc, int want) {
        State before = State.of(x);
        Check.due(when + ": link(" + gc + ")", x.link(gc), want);
        before.isStill(when, x);
        Feed.info(when, x, LinkScript.INFO_PHASE, LinkScript.PHASE_FEED);
    }

    private static void condition1LeavesLinkedAsItWas() {
        LinkScript x = Overlays.linked();
        State before = State.of(x);
        Check.due("linked: link(false)", x.link(false), LinkScript.ERR_STATE);
        Check.due("linked: link(true)", x.link(true), LinkScript.ERR_STATE);
        before.isStill("linked", x);
        Feed.info("linked", x, LinkScript.INFO_PHASE, LinkScript.PHASE_LINKED);
    }

    private static void condition1LeavesStartedAsItWas() {
        LinkScript x = Overlays.started();
        Feed.load(x, 3);
        State before = State.of(x);
        Check.due("started: link(false)", x.link(false), LinkScript.ERR_STATE);
        Check.due("started: link(true)", x.link(true), LinkScript.ERR_STATE);
        before.isStill("started", x);
        Feed.info("started", x, LinkScript.INFO_PHASE, LinkScript.PHASE_STARTED);
    }

    private static void condition2SectionStillOpen() {
        LinkScript x = new LinkScript(64, 64);
        Feed.open(x, ROM, 1);
        refused("open", x, false, LinkScript.ERR_SCRIPT);
        refused("open", x, true, LinkScript.ERR_SCRIPT);
        Feed.end(x);
        Feed.link(x, false);
    }

    private static void condition2GroupStillOpen() {
        LinkScript x = new LinkScript(64, 64);
        Feed.openGroup(x);
        refused("no member yet", x, false, LinkScript.ERR_SCRIPT);
        Feed.open(x, RAM, 1);
        refused("an open member", x, false, LinkScript.ERR_SCRIPT);
        Feed.end(x);
        refused("a closed member", x, true, LinkScript.ERR_SCRIPT);
        Feed.endGroup(x);
        Feed.link(x, true);
    }

    // Bit 0: a section is open; 1: an undefined target; 2: DATA in a NOLOAD
    // section; 3: a backward DOT_SET; 4: a section beyond its region.
    private static LinkScript withFaults(int faults) {
        LinkScript x = new LinkScript(16, 16);
        Feed.section(x, RAM, 0, KEEP, 2);
        Feed.section(x, ROM, 1, KEEP, 1);
        Feed.bytes(x, TEXT, 1, 1, 1, 2);
        if ((faults & 2) != 0) {
            Feed.reloc(x, 0, ABS, 9, 0);
        }
        if ((faults & 4) != 0) {
            Feed.bytes(x, DATA, 2, 1, 3);
        }
        if ((faults & 16) != 0) {
            Feed.open(x, RAM, 0);
            Feed.stmt(x, ADD, 17, 0);
            Feed.end(x);
        }
        if ((faults & 8) != 0) {
            Feed.stmt(x, SET, 1, ROM);
        }
        if ((faults & 1) != 0) {
            Feed.open(x, RAM, 1);
        }
        return x;
    }

    private static void everySetOfFaultsIsDecidedByTheFirst() {
        int[] codes = {LinkScript.ERR_SCRIPT, LinkScript.ERR_UNDEF, LinkScript.ERR_NOLOAD,
            LinkScript.ERR_BACKWARD, LinkScript.ERR_OVERFLOW};
        for (int faults = 1; faults < 32; faults++) {
            int first = Integer.numberOfTrailingZeros(faults);
            refused("faults " + faults, withFaults(faults), false, codes[first]);
            refused("faults " + faults, withFaults(faults), true, codes[first]);
        }
        Feed.link(withFaults(0), false);
    }

    private static void lowestNumberedStatementTakes() {
        LinkScript x = new LinkScript(64, 64);
        Feed.open(x, ROM, 1);
        Feed.stmt(x, INPUT, 3, TEXT);
        Feed.stmt(x, KEEP, 3, TEXT);
        Feed.stmt(x, INPUT, -1, 0);
        Feed.end(x);
        Feed.section(x, RAM, 1, KEEP, -1);
        Feed.bytes(x, TEXT, 3, 1, 1);
        Feed.bytes(x, DATA, 3, 1, 2);
        Feed.link(x, false);
        Feed.in("an INPUT before a KEEP", x, 0, 1, 1, 0, 0, 0);
        Feed.in("a later statement for any", x, 1, 3, 1, 0, 1, 1);
        Feed.out("nothing is left", x, 1, 256, 2, 0);
    }

    private static void idsAndKindsAtTheirBounds() {
        int[] ids = {0, 15};
        for (int id : ids) {
            for (int kind = TEXT; kind <= BSS; kind++) {
                LinkScript x = new LinkScript(64, 64);
                Feed.open(x, ROM, 1);
                Feed.stmt(x, INPUT, 15 - id, kind);
                Feed.stmt(x, INPUT, id, kind % 3 + 1);
                Feed.stmt(x, INPUT, id, kind);
                Feed.end(x);
                x.beginSection(kind, id, 1, 0);
                Feed.link(x, false);
                Check.due("id " + id + ", kind " + kind, x.inInfo(0, LinkScript.IN_STMT), 3);
            }
        }
    }

    private static void noStatementTakes() {
        LinkScript x = new LinkScript(64, 64);
        Feed.open(x, ROM, 1);
        Feed.stmt(x, KEEP, 1, TEXT);
        Feed.stmt(x, ADD, 1, TEXT);
        Feed.end(x);
        Feed.bytes(x, TEXT, 2, 1, 1);
        Feed.bytes(x, DATA, 1, 1, 1);
        Feed.link(x, false);
        Feed.in("another id", x, 0, -1, 0, -1, -1, -1);
        Feed.in("another kind", x, 1, -1, 0, -1, -1, -1);
        Feed.out("empty but for its DOT_ADD", x, 0, 0, 0, 1);
        LinkScript y = new LinkScript(64, 64);
        Feed.bytes(y, TEXT, 2, 1, 1);
        Feed.link(y, false);
        Feed.in("no statement at all", y, 0, -1, 0, -1, -1, -1);
    }

    private static void collectionWithoutRoots() {
        LinkScript x = new LinkScript(64, 64);
        Feed.section(x, ROM, 1, INPUT, -1);
        Feed.bytes(x, TEXT, 0, 1, 1, 2);
        Feed.reloc(x, 0, ABS, 0, 0);
        Feed.link(x, true);
        Feed.in("no root", x, 0, 1, 0, -1, -1, -1);
        Feed.rom("no root", x, 0, 255);
    }

    private static void collectionOverACycle() {
        for (int root = 0; root < 3; root++) {
            LinkScript x = new LinkScript(64, 64);
            Feed.open(x, ROM, 1);
            Feed.stmt(x, KEEP, root, 0);
            Feed.stmt(x, INPUT, -1, 0);
            Feed.end(x);
            for (int s = 0; s < 3; s++) {
                Feed.bytes(x, TEXT, s, 1, 0, 0);
                Feed.reloc(x, 0, ABS, (s + 1) % 3, 0);
            }
            Feed.bytes(x, TEXT, 3, 1, 0, 0);
            Feed.reloc(x, 0, ABS, 0, 0);
            Feed.link(x, true);
            for (int s = 0; s < 4; s++) {
                Check.due("root " + root + ", live " + s, x.inInfo(s, LinkScript.IN_LIVE), s < 3 ? 1 : 0);
            }
        }
    }

    private static void collectionOverTheLongestChain() {
        for (int step = -1; step <= 1; step += 2) {
            LinkScript x = new LinkScript(64, 64);
            Feed.open(x, ROM, 1);
            Feed.stmt(x, KEEP, step > 0 ? 0 : 15, 0);
            Feed.stmt(x, INPUT, -1, 0);
            Feed.end(x);
            for (int s = 0; s < LinkScript.MAX_IN; s++) {
                Feed.bytes(x, TEXT, s, 1, 0, 0);
                int next = s + step;
                Feed.reloc(x, 0, ABS, next < 0 || next > 15 ? s : next, 0);
            }
            Feed.link(x, true);
            Feed.out("step " + step, x, 0, 0, 0, 32);
        }
    }

    private static LinkScript withTarget(int target, int sections) {
        LinkScript x = new LinkScript(64, 64);
        Feed.section(x, ROM, 1, KEEP, -1);
        Feed.bytes(x, TEXT, 0, 1, 1, 2);
        Feed.reloc(x, 0, ABS, target, 0);
        for (int s = 1; s < sections; s++) {
            Feed.bytes(x, TEXT, 0, 1, 3);
        }
        return x;
    }

    private static void condition3TargetIsTheNumberOfSections() {
        for (int sections = 1; sections < LinkScript.MAX_IN; sections++) {
            Feed.link(withTarget(sections - 1, sections), true);
            refused("target " + sections, withTarget(sections, sections), true, LinkScript.ERR_UNDEF);
            refused("target 15", withTarget(15, sections), false, LinkScript.ERR_UNDEF);
        }
    }

    private static void condition3TargetIsTheLastOf16() {
        LinkScript x = withTarget(15, LinkScript.MAX_IN);
        Feed.link(x, true);
        Feed.rom("the address of section 15", x, 0, 16, 0);
    }

    private static void condition3TargetIsUnassigned() {
        LinkScript x = new LinkScript(64, 64);
        Feed.section(x, ROM, 1, KEEP, 1);
        Feed.bytes(x, TEXT, 1, 1, 1, 2);
        Feed.reloc(x, 0, ABS, 1, 0);
        Feed.bytes(x, TEXT, 2, 1, 3);
        refused("no statement for id 2", x, false, LinkScript.ERR_UNDEF);
        refused("no statement for id 2", x, true, LinkScript.ERR_UNDEF);
        Feed.section(x, ROM, 1, INPUT, 2);
        Feed.link(x, true);
        Feed.rom("now there is one", x, 0, 2, 0, 3);
    }

    private static void condition3LooksAtLiveSectionsAlone() {
        LinkScript x = new LinkScript(64, 64);
        Feed.open(x, ROM, 1);
        Feed.stmt(x, KEEP, 0, 0);
        Feed.stmt(x, INPUT, 1, 0);
        Feed.end(x);
        Feed.bytes(x, TEXT, 0, 1, 5);
        Feed.bytes(x, TEXT, 1, 1, 1, 2);
        Feed.reloc(x, 0, ABS, 15, 0);
        refused("assigned, so live", x, false, LinkScript.ERR_UNDEF);
        Feed.link(x, true);
        LinkScript y = new LinkScript(64, 64);
        Feed.section(y, ROM, 1, KEEP, 0);
        Feed.bytes(y, TEXT, 1, 1, 1, 2);
        Feed.reloc(y, 0, ABS, 15, 0);
        Feed.link(y, false);
    }

    private static void condition4EmptyTextOrData() {
        for (int kind = TEXT; kind <= DATA; kind++) {
            LinkScript x = new LinkScript(64, 64);
            Feed.section(x, RAM, 0, KEEP, 0);
            Feed.bytes(x, kind, 0, 1);
            refused("no byte of kind " + kind, x, false, LinkScript.ERR_NOLOAD);
            refused("no byte of kind " + kind, x, true, LinkScript.ERR_NOLOAD);
        }
    }

    private static void condition4LooksAtLiveSectionsAlone() {
        LinkScript x = new LinkScript(64, 64);
        Feed.section(x, RAM, 0, INPUT, 0);
        Feed.section(x, ROM, 1, KEEP, 1);
        Feed.bytes(x, DATA, 0, 1, 1);
        refused("all are live", x, false, LinkScript.ERR_NOLOAD);
        LinkScript y = new LinkScript(64, 64);
        Feed.section(y, RAM, 0, INPUT, 0);
        Feed.section(y, ROM, 1, KEEP, 1);
        Feed.bytes(y, DATA, 0, 1, 1);
        Feed.bytes(y, TEXT, 1, 1, 1, 2);
        Feed.reloc(y, 0, ABS, 0, 0);
        refused("reached from a root", y, true, LinkScript.ERR_NOLOAD);
        Feed.link(x, true);
        Feed.out("collected", x, 0, 256, 256, 0);
    }

    private static void condition4InAMember() {
        LinkScript x = new LinkScript(64, 64);
        Feed.openGroup(x);
        Feed.section(x, RAM, 1, KEEP, 0);
        Feed.section(x, RAM, 0, INPUT, 1);
        Feed.endGroup(x);
        Feed.bytes(x, DATA, 0, 1, 1);
        Feed.bytes(x, DATA, 1, 1, 2);
        refused("a NOLOAD member", x, false, LinkScript.ERR_NOLOAD);
        Feed.link(x, true);
    }

    private static void condition4BssIsFree() {
        LinkScript x = new LinkScript(64, 64);
        Feed.section(x, RAM, 0, KEEP, 0);
        Feed.bss(x, 0, 1, 64);
        Feed.link(x, false);
        Feed.out("BSS", x, 0, 256, 256, 64);
    }

    private static LinkScript withSet(boolean inside, int region, int v) {
        LinkScript x = new LinkScript(64, 64);
        Feed.stmt(x, ADD, 8, region);
        if (inside) {
            Feed.open(x, region, 1);
        }
        Feed.stmt(x, SET, v, region);
        if (inside) {
            Feed.end(x);
        }
        return x;
    }

    private static void setsAround(boolean inside) {
        int[] bases = {LinkScript.ROM_BASE, LinkScript.RAM_BASE};
        for (int region = ROM; region <= RAM; region++) {
            int at = bases[region] + 8;
            refused("one below", withSet(inside, region, at - 1), false, LinkScript.ERR_BACKWARD);
            refused("far below", withSet(inside, region, 0), false, LinkScript.ERR_BACKWARD);
            LinkScript same = withSet(inside, region, at);
            Feed.link(same, false);
            Feed.info("the same", same, LinkScript.INFO_ROM_COUNTER + region, at);
            LinkScript above = withSet(inside, region, at + 1);
            Feed.link(above, false);
            Feed.info("one above", above, LinkScript.INFO_ROM_COUNTER + region, at + 1);
        }
    }

    private static void condition5OutsideASection() {
        setsAround(false);
    }

    private static void condition5InsideASection() {
        setsAround(true);
        LinkScript x = new LinkScript(64, 64);
        Feed.open(x, ROM, 1);
        Feed.stmt(x, INPUT, 0, 0);
        Feed.stmt(x, SET, 3, 0);
        Feed.end(x);
        Feed.bytes(x, TEXT, 0, 1, 1, 2, 3);
        Feed.bytes(x, TEXT, 0, 1);
        LinkScript y = new LinkScript(64, 64);
        Feed.open(y, ROM, 1);
        Feed.stmt(y, INPUT, 0, 0);
        Feed.stmt(y, SET, 2, 0);
        Feed.end(y);
        Feed.bytes(y, TEXT, 0, 1, 1, 2, 3);
        Feed.link(x, false);
        refused("into the bytes", y, false, LinkScript.ERR_BACKWARD);
    }

    private static LinkScript withSetInMember(int align, int v) {
        LinkScript x = new LinkScript(64, 64);
        Feed.stmt(x, ADD, 1, RAM);
        Feed.openGroup(x);
        Feed.open(x, RAM, 0);
        Feed.stmt(x, ADD, 9, 0);
        Feed.end(x);
        Feed.open(x, RAM, 1);
        Feed.stmt(x, SET, v, 0);
        Feed.stmt(x, KEEP, 0, 0);
        Feed.end(x);
        Feed.endGroup(x);
        Feed.bytes(x, DATA, 0, align, 1);
        return x;
    }

    private static void condition5InAMember() {
        // A member starts anew at the group's start, brought to its align.
        refused("align 1", withSetInMember(1, 256), false, LinkScript.ERR_BACKWARD);
        Feed.link(withSetInMember(1, 257), false);
        refused("align 4", withSetInMember(4, 259), false, LinkScript.ERR_BACKWARD);
        Feed.link(withSetInMember(4, 260), false);
    }

    private static LinkScript withSetBehind(int op, int region, int v) {
        LinkScript x = new LinkScript(64, 64);
        if (op == LinkScript.OP_OVERLAY) {
            Feed.openGroup(x);
        }
        Feed.open(x, RAM, 1);
        Feed.stmt(x, ADD, 5, 0);
        Feed.end(x);
        if (op == LinkScript.OP_OVERLAY) {
            Feed.open(x, RAM, 1);
            Feed.stmt(x, ADD, 3, 0);
            Feed.end(x);
            Feed.endGroup(x);
        }
        Feed.stmt(x, SET, v, region);
        return x;
    }

    private static void condition5BehindWhatMovesACounter() {
        int section = LinkScript.OP_SECTION;
        int overlay = LinkScript.OP_OVERLAY;
        refused("a loaded section's image", withSetBehind(section, ROM, 4), false, LinkScript.ERR_BACKWARD);
        Feed.link(withSetBehind(section, ROM, 5), false);
        refused("a RAM section", withSetBehind(section, RAM, 260), false, LinkScript.ERR_BACKWARD);
        Feed.link(withSetBehind(section, RAM, 261), false);
        refused("the images of a group", withSetBehind(overlay, ROM, 7), false, LinkScript.ERR_BACKWARD);
        Feed.link(withSetBehind(overlay, ROM, 8), false);
        refused("a group's span", withSetBehind(overlay, RAM, 260), false, LinkScript.ERR_BACKWARD);
        Feed.link(withSetBehind(overlay, RAM, 261), false);
    }

    private static void condition5StopsTheWalk() {
        LinkScript before = new LinkScript(16, 16);
        Feed.open(before, ROM, 1);
        Feed.stmt(before, ADD, 17, 0);
        Feed.end(before);
        Feed.stmt(before, SET, 16, ROM);
        refused("an overflow before it", before, false, LinkScript.ERR_BACKWARD);
        LinkScript behind = new LinkScript(16, 16);
        Feed.stmt(behind, SET, 255, RAM);
        Feed.open(behind, ROM, 1);
        Feed.stmt(behind, ADD, 17, 0);
        Feed.end(behind);
        refused("an overflow behind it", behind, false, LinkScript.ERR_BACKWARD);
    }

    // Each is refused by link(false) with the code, and links with link(true).
    private static LinkScript refusedWhenAllAreLive(int code) {
        LinkScript x = new LinkScript(32, 32);
        Feed.open(x, ROM, 1);
        Feed.stmt(x, KEEP, 0, 0);
        Feed.stmt(x, INPUT, 1, 0);
        Feed.stmt(x, SET, 8, 0);
        Feed.end(x);
        Feed.openGroup(x);
        Feed.section(x, RAM, 1, KEEP, 4);
        Feed.section(x, RAM, 0, INPUT, 2);
        Feed.endGroup(x);
        Feed.section(x, RAM, 0, INPUT, 3);
        Feed.bytes(x, DATA, 4, 2, 41, 42);
        if (code == LinkScript.ERR_UNDEF) {
            Feed.bytes(x, TEXT, 1, 1, 1, 2);
            Feed.reloc(x, 0, ABS, 15, 0);
        } else if (code == LinkScript.ERR_NOLOAD) {
            Feed.bytes(x, TEXT, 2, 1, 1);
        } else if (code == LinkScript.ERR_BACKWARD) {
            Feed.filled(x, TEXT, 1, 1, 9, 7);
        } else if (code == LinkScript.ERR_OVERFLOW) {
            Feed.bss(x, 3, 8, 33);
        } else {
            Feed.open(x, RAM, 0);
        }
        return x;
    }

    private static void goOn(LinkScript x, int code) {
        if (code == LinkScript.ERR_SCRIPT) {
            Feed.end(x);
        }
        Feed.bytes(x, TEXT, 0, 1, 5, 6);
        Feed.reloc(x, 0, LinkScript.R_LMA16, 0, 1);
        Feed.open(x, ROM, 1);
        Feed.stmt(x, ADD, 2, 0);
        Feed.end(x);
        Feed.link(x, true);
    }

    private static void refusalByEachConditionLeavesEverything() {
        for (int code = LinkScript.ERR_OVERFLOW; code <= LinkScript.ERR_SCRIPT; code++) {
            LinkScript x = refusedWhenAllAreLive(code);
            LinkScript never = refusedWhenAllAreLive(code);
            refused("code " + code, x, false, code);
            goOn(x, code);
            goOn(never, code);
            State.of(never).isStill("after " + code + ", linked", x);
            Feed.start(x);
            Feed.start(never);
            State.of(never).isStill("after " + code + ", started", x);
            Feed.load(x, 2);
            Feed.load(never, 2);
            State.of(never).isStill("after " + code + ", loaded", x);
        }
    }

    private static void linkMayBeCalledAgainAndAgain() {
        LinkScript x = new LinkScript(32, 32);
        Feed.openGroup(x);
        refused("open", x, true, LinkScript.ERR_SCRIPT);
        Feed.section(x, RAM, 1, KEEP, 0);
        refused("open", x, true, LinkScript.ERR_SCRIPT);
        Feed.endGroup(x);
        Feed.bytes(x, DATA, 0, 16, 1, 2);
        Feed.reloc(x, 0, ABS, 1, 0);
        refused("target 1", x, true, LinkScript.ERR_UNDEF);
        Feed.bss(x, 0, 1, 31);
        refused("33 bytes", x, true, LinkScript.ERR_OVERFLOW);
        refused("33 bytes", x, false, LinkScript.ERR_OVERFLOW);
        Check.due("still in FEED: startup", x.startup(), LinkScript.ERR_STATE);
        Check.due("still in FEED: addByte on BSS", x.addByte(1), LinkScript.ERR_CONTEXT);
        Feed.info("the refused ones fed nothing", x, LinkScript.INFO_INS, 2);
    }
}
