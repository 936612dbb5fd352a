/** A small linker for ROM and RAM; ../shared/DOC.md says what each call does. */
public final class LinkScript {
    public static final int OK = 0;
    public static final int ERR_STATE = -1;
    public static final int ERR_ARG = -2;
    public static final int ERR_CONTEXT = -3;
    public static final int ERR_FULL = -4;
    public static final int ERR_SCRIPT = -5;
    public static final int ERR_UNDEF = -6;
    public static final int ERR_NOLOAD = -7;
    public static final int ERR_BACKWARD = -8;
    public static final int ERR_OVERFLOW = -9;

    public static final int KIND_TEXT = 1;
    public static final int KIND_DATA = 2;
    public static final int KIND_BSS = 3;

    public static final int REGION_ROM = 0;
    public static final int REGION_RAM = 1;
    public static final int ROM_BASE = 0;
    public static final int RAM_BASE = 256;

    public static final int R_ABS16 = 1;
    public static final int R_LMA16 = 2;
    public static final int R_PC16 = 3;

    public static final int OP_SECTION = 1;
    public static final int OP_END = 2;
    public static final int OP_INPUT = 3;
    public static final int OP_KEEP = 4;
    public static final int OP_DOT_SET = 5;
    public static final int OP_DOT_ADD = 6;
    public static final int OP_DOT_ALIGN = 7;
    public static final int OP_OVERLAY = 8;
    public static final int OP_OVERLAY_END = 9;

    public static final int MAX_STMTS = 32;
    public static final int MAX_OUT = 8;
    public static final int MAX_GROUPS = 4;
    public static final int MAX_IN = 16;
    public static final int MAX_BYTES = 256;
    public static final int MAX_RELOCS = 32;

    public static final int PHASE_FEED = 0;
    public static final int PHASE_LINKED = 1;
    public static final int PHASE_STARTED = 2;

    public static final int OUT_VMA = 0;
    public static final int OUT_LMA = 1;
    public static final int OUT_SIZE = 2;
    public static final int OUT_REGION = 3;
    public static final int OUT_LOADED = 4;
    public static final int OUT_GROUP = 5;
    public static final int OUT_RESIDENT = 6;
    public static final int OUT_ALIGN = 7;
    public static final int OUT_SPAN_START = 8;
    public static final int OUT_SPAN_END = 9;

    public static final int IN_KIND = 0;
    public static final int IN_ID = 1;
    public static final int IN_ALIGN = 2;
    public static final int IN_SIZE = 3;
    public static final int IN_STMT = 4;
    public static final int IN_LIVE = 5;
    public static final int IN_OUT = 6;
    public static final int IN_VMA = 7;
    public static final int IN_LMA = 8;

    public static final int INFO_PHASE = 0;
    public static final int INFO_STMTS = 1;
    public static final int INFO_OUTS = 2;
    public static final int INFO_INS = 3;
    public static final int INFO_BYTES = 4;
    public static final int INFO_RELOCS = 5;
    public static final int INFO_GROUPS = 6;
    public static final int INFO_ROM_SIZE = 7;
    public static final int INFO_RAM_SIZE = 8;
    public static final int INFO_ROM_COUNTER = 9;
    public static final int INFO_RAM_COUNTER = 10;

    private static final int NONE = -1;
    private static final int ANY_ID = -1;
    private static final int ANY_KIND = 0;
    private static final int MAX_ID = 15;
    private static final int MAX_TARGET = 15;
    private static final int MIN_ADDEND = -256;
    private static final int MAX_ADDEND = 255;
    private static final int MAX_BSS = 128;
    private static final int MAX_DOT_SET = 1023;
    private static final int MAX_DOT_ADD = 255;
    private static final int MIN_REGION_SIZE = 16;
    private static final int MAX_REGION_SIZE = 128;
    private static final int REGIONS = 2;
    private static final int BLANK = 255;
    // RAM_BASE and the greatest RAM behind it.
    private static final int ADDRESS_SPACE = 384;

    private int phase;

    // Both are indexed by region.
    private final int[] regionSize = new int[REGIONS];
    private final int[] counter = new int[REGIONS];

    // ROM and RAM in one array, so that a run or load address is an index.
    private final int[] memory = new int[ADDRESS_SPACE];

    private int stmtCount;
    private final int[] stmtOp = new int[MAX_STMTS];
    private final int[] stmtA = new int[MAX_STMTS];
    private final int[] stmtB = new int[MAX_STMTS];
    // The group of an overlay op; of any other op the output section that it
    // opens, closes or stands in; else NONE.
    private final int[] stmtOwner = new int[MAX_STMTS];
    private int openOut = NONE;
    private int openGroup = NONE;

    private int outCount;
    private final int[] outRegion = new int[MAX_OUT];
    private final int[] outLoaded = new int[MAX_OUT];
    private final int[] outGroup = new int[MAX_OUT];
    private final int[] outAlign = new int[MAX_OUT];
    private final int[] outVma = new int[MAX_OUT];
    private final int[] outLma = new int[MAX_OUT];
    // The dot while a section is placed, so its run end once it is closed.
    private final int[] outDot = new int[MAX_OUT];

    private int groupCount;
    private final int[] groupStart = new int[MAX_GROUPS];
    private final int[] groupEnd = new int[MAX_GROUPS];
    private final int[] groupResident = new int[MAX_GROUPS];

    // The current section is always the last one: none is ever taken up again.
    private int inCount;
    private final int[] inKind = new int[MAX_IN];
    private final int[] inId = new int[MAX_IN];
    private final int[] inAlign = new int[MAX_IN];
    private final int[] inSize = new int[MAX_IN];
    private final int[] inFirstByte = new int[MAX_IN];
    private final int[] inStmt = new int[MAX_IN];
    private final int[] inLive = new int[MAX_IN];
    private final int[] inVma = new int[MAX_IN];

    private int byteCount;
    private final int[] fedBytes = new int[MAX_BYTES];

    private int relocCount;
    private final int[] relocOwner = new int[MAX_RELOCS];
    private final int[] relocOffset = new int[MAX_RELOCS];
    private final int[] relocType = new int[MAX_RELOCS];
    private final int[] relocTarget = new int[MAX_RELOCS];
    private final int[] relocAddend = new int[MAX_RELOCS];

    public LinkScript(int romSize, int ramSize) {
        regionSize[REGION_ROM] = clampedSize(romSize);
        regionSize[REGION_RAM] = clampedSize(ramSize);
        fill(0, ADDRESS_SPACE, BLANK);
    }

    private static int clampedSize(int size) {
        if (size < MIN_REGION_SIZE) {
            return MIN_REGION_SIZE;
        }
        return size > MAX_REGION_SIZE ? MAX_REGION_SIZE : size;
    }

    private void fill(int start, int end, int value) {
        for (int x = start; x < end; x++) {
            memory[x] = value;
        }
    }

    public int script(int op, int a, int b) {
        if (phase != PHASE_FEED) {
            return ERR_STATE;
        }
        if (op < OP_SECTION || op > OP_OVERLAY_END) {
            return ERR_ARG;
        }
        if (!contextAllows(op)) {
            return ERR_CONTEXT;
        }
        if (!operandsAllowed(op, a, b)) {
            return ERR_ARG;
        }
        if (!hasRoomFor(op)) {
            return ERR_FULL;
        }
        append(op, a, b);
        return OK;
    }

    private boolean contextAllows(int op) {
        boolean inSection = openOut != NONE;
        boolean inGroup = openGroup != NONE;
        switch (op) {
            case OP_SECTION:
                return !inSection;
            case OP_END:
            case OP_INPUT:
            case OP_KEEP:
                return inSection;
            case OP_OVERLAY:
                return !inSection && !inGroup;
            case OP_OVERLAY_END:
                return inGroup && !inSection;
            default:
                return inSection || !inGroup;
        }
    }

    private boolean operandsAllowed(int op, int a, int b) {
        switch (op) {
            case OP_SECTION:
                return isSectionForm(a, b);
            case OP_INPUT:
            case OP_KEEP:
                return a >= ANY_ID && a <= MAX_ID && b >= ANY_KIND && b <= KIND_BSS;
            case OP_DOT_SET:
                return a >= 0 && a <= MAX_DOT_SET && namesCounter(b);
            case OP_DOT_ADD:
                return a >= 0 && a <= MAX_DOT_ADD && namesCounter(b);
            case OP_DOT_ALIGN:
                return isAlignment(a) && namesCounter(b);
            default:
                return true;
        }
    }

    private boolean isSectionForm(int a, int b) {
        if (a == REGION_ROM) {
            return b == 1 && openGroup == NONE;
        }
        return a == REGION_RAM && (b == 0 || b == 1);
    }

    // Inside a section a dot op acts on the section's dot, so b names nothing.
    private boolean namesCounter(int b) {
        return openOut != NONE || b == REGION_ROM || b == REGION_RAM;
    }

    private static boolean isAlignment(int m) {
        return m == 1 || m == 2 || m == 4 || m == 8 || m == 16;
    }

    private boolean hasRoomFor(int op) {
        if (stmtCount >= MAX_STMTS) {
            return false;
        }
        if (op == OP_SECTION) {
            return outCount < MAX_OUT;
        }
        return op != OP_OVERLAY || groupCount < MAX_GROUPS;
    }

    private void append(int op, int a, int b) {
        if (op == OP_SECTION) {
            openSection(a, b);
        }
        if (op == OP_OVERLAY) {
            openGroup = groupCount;
            groupCount++;
        }
        boolean isOverlayOp = op == OP_OVERLAY || op == OP_OVERLAY_END;
        stmtOp[stmtCount] = op;
        stmtA[stmtCount] = a;
        stmtB[stmtCount] = b;
        stmtOwner[stmtCount] = isOverlayOp ? openGroup : openOut;
        stmtCount++;
        if (op == OP_END) {
            openOut = NONE;
        }
        if (op == OP_OVERLAY_END) {
            openGroup = NONE;
        }
    }

    private void openSection(int region, int loaded) {
        openOut = outCount;
        outRegion[outCount] = region;
        outLoaded[outCount] = loaded;
        outGroup[outCount] = openGroup;
        outCount++;
    }

    public int beginSection(int kind, int id, int align, int bssSize) {
        if (phase != PHASE_FEED) {
            return ERR_STATE;
        }
        if (kind < KIND_TEXT || kind > KIND_BSS || id < 0 || id > MAX_ID || !isAlignment(align)) {
            return ERR_ARG;
        }
        if (kind == KIND_BSS && (bssSize < 0 || bssSize > MAX_BSS)) {
            return ERR_ARG;
        }
        if (inCount >= MAX_IN) {
            return ERR_FULL;
        }
        inKind[inCount] = kind;
        inId[inCount] = id;
        inAlign[inCount] = align;
        inSize[inCount] = kind == KIND_BSS ? bssSize : 0;
        inFirstByte[inCount] = byteCount;
        inCount++;
        return inCount - 1;
    }

    public int addByte(int value) {
        if (phase != PHASE_FEED) {
            return ERR_STATE;
        }
        if (!currentHoldsBytes()) {
            return ERR_CONTEXT;
        }
        if (byteCount >= MAX_BYTES) {
            return ERR_FULL;
        }
        fedBytes[byteCount] = value & 255;
        byteCount++;
        inSize[inCount - 1]++;
        return OK;
    }

    private boolean currentHoldsBytes() {
        return inCount > 0 && inKind[inCount - 1] != KIND_BSS;
    }

    public int addReloc(int offset, int type, int target, int addend) {
        if (phase != PHASE_FEED) {
            return ERR_STATE;
        }
        if (!currentHoldsBytes()) {
            return ERR_CONTEXT;
        }
        if (type < R_ABS16 || type > R_PC16 || offset < 0 || offset > inSize[inCount - 1] - 2) {
            return ERR_ARG;
        }
        if (target < 0 || target > MAX_TARGET || addend < MIN_ADDEND || addend > MAX_ADDEND) {
            return ERR_ARG;
        }
        if (relocCount >= MAX_RELOCS) {
            return ERR_FULL;
        }
        relocOwner[relocCount] = inCount - 1;
        relocOffset[relocCount] = offset;
        relocType[relocCount] = type;
        relocTarget[relocCount] = target;
        relocAddend[relocCount] = addend;
        relocCount++;
        return OK;
    }

    // What a refused link has already worked out stays in the arrays: in FEED
    // no getter shows it, and the next link works all of it out anew.
    public int link(boolean gc) {
        if (phase != PHASE_FEED) {
            return ERR_STATE;
        }
        if (openOut != NONE || openGroup != NONE) {
            return ERR_SCRIPT;
        }
        assignSections();
        markLive(gc);
        if (hasUndefinedTarget()) {
            return ERR_UNDEF;
        }
        if (hasBytesInNoload()) {
            return ERR_NOLOAD;
        }
        if (!placeAll()) {
            return ERR_BACKWARD;
        }
        if (overflows()) {
            return ERR_OVERFLOW;
        }
        writeRom();
        makeFirstMembersResident();
        phase = PHASE_LINKED;
        return OK;
    }

    private void assignSections() {
        for (int s = 0; s < inCount; s++) {
            inStmt[s] = firstMatch(s);
        }
    }

    private int firstMatch(int s) {
        for (int i = 0; i < stmtCount; i++) {
            boolean takesInput = stmtOp[i] == OP_INPUT || stmtOp[i] == OP_KEEP;
            boolean takesId = stmtA[i] == ANY_ID || stmtA[i] == inId[s];
            boolean takesKind = stmtB[i] == ANY_KIND || stmtB[i] == inKind[s];
            if (takesInput && takesId && takesKind) {
                return i;
            }
        }
        return NONE;
    }

    private void markLive(boolean gc) {
        for (int s = 0; s < inCount; s++) {
            boolean assigned = inStmt[s] != NONE;
            inLive[s] = assigned && (!gc || stmtOp[inStmt[s]] == OP_KEEP) ? 1 : 0;
        }
        // A chain of relocations to a new section has fewer links than there
        // are sections, so this many rounds reach every section.
        for (int round = 0; round < inCount; round++) {
            markTargetsOfLive();
        }
    }

    private void markTargetsOfLive() {
        for (int r = 0; r < relocCount; r++) {
            if (inLive[relocOwner[r]] == 1 && hasAssignedTarget(r)) {
                inLive[relocTarget[r]] = 1;
            }
        }
    }

    private boolean hasAssignedTarget(int r) {
        return relocTarget[r] < inCount && inStmt[relocTarget[r]] != NONE;
    }

    private boolean hasUndefinedTarget() {
        for (int r = 0; r < relocCount; r++) {
            if (inLive[relocOwner[r]] == 1 && !hasAssignedTarget(r)) {
                return true;
            }
        }
        return false;
    }

    private boolean hasBytesInNoload() {
        for (int s = 0; s < inCount; s++) {
            if (inKind[s] != KIND_BSS && inLive[s] == 1 && outLoaded[outOfLive(s)] == 0) {
                return true;
            }
        }
        return false;
    }

    private int outOfLive(int s) {
        return stmtOwner[inStmt[s]];
    }

    private boolean placeAll() {
        counter[REGION_ROM] = ROM_BASE;
        counter[REGION_RAM] = RAM_BASE;
        for (int i = 0; i < stmtCount; i++) {
            if (!place(i)) {
                return false;
            }
        }
        return true;
    }

    // False if the statement sets a dot or a counter backward.
    private boolean place(int i) {
        int owner = stmtOwner[i];
        switch (stmtOp[i]) {
            case OP_SECTION:
                startPlacing(owner);
                return true;
            case OP_END:
                endPlacing(owner);
                return true;
            case OP_INPUT:
            case OP_KEEP:
                placeInputs(i);
                return true;
            case OP_OVERLAY:
                groupStart[owner] = counter[REGION_RAM];
                groupEnd[owner] = counter[REGION_RAM];
                return true;
            case OP_OVERLAY_END:
                counter[REGION_RAM] = groupEnd[owner];
                return true;
            default:
                return moveDot(i);
        }
    }

    private void startPlacing(int k) {
        int m = greatestAlign(k);
        int base = outGroup[k] == NONE ? counter[outRegion[k]] : groupStart[outGroup[k]];
        int vma = alignUp(base, m);
        boolean copied = outRegion[k] == REGION_RAM && outLoaded[k] == 1;
        outAlign[k] = m;
        outVma[k] = vma;
        outLma[k] = copied ? alignUp(counter[REGION_ROM], m) : vma;
        outDot[k] = vma;
    }

    private int greatestAlign(int k) {
        int m = 1;
        for (int s = 0; s < inCount; s++) {
            if (inLive[s] == 1 && outOfLive(s) == k && inAlign[s] > m) {
                m = inAlign[s];
            }
        }
        return m;
    }

    private static int alignUp(int x, int m) {
        return (x + m - 1) & -m;
    }

    private void placeInputs(int i) {
        int k = stmtOwner[i];
        for (int s = 0; s < inCount; s++) {
            if (inLive[s] == 1 && inStmt[s] == i) {
                inVma[s] = alignUp(outDot[k], inAlign[s]);
                outDot[k] = inVma[s] + inSize[s];
            }
        }
    }

    private boolean moveDot(int i) {
        int k = stmtOwner[i];
        int from = k == NONE ? counter[stmtB[i]] : outDot[k];
        if (stmtOp[i] == OP_DOT_SET && stmtA[i] < from) {
            return false;
        }
        int to = movedDot(i, from);
        if (k == NONE) {
            counter[stmtB[i]] = to;
        } else {
            outDot[k] = to;
        }
        return true;
    }

    private int movedDot(int i, int from) {
        switch (stmtOp[i]) {
            case OP_DOT_SET:
                return stmtA[i];
            case OP_DOT_ADD:
                return from + stmtA[i];
            default:
                return alignUp(from, stmtA[i]);
        }
    }

    private void endPlacing(int k) {
        int g = outGroup[k];
        if (g == NONE) {
            counter[outRegion[k]] = outDot[k];
        } else if (outDot[k] > groupEnd[g]) {
            groupEnd[g] = outDot[k];
        }
        if (outLoaded[k] == 1) {
            counter[REGION_ROM] = loadEnd(k);
        }
    }

    private int sizeOfOut(int k) {
        return outDot[k] - outVma[k];
    }

    private int loadEnd(int k) {
        return outLma[k] + sizeOfOut(k);
    }

    private boolean overflows() {
        int romEnd = regionEnd(REGION_ROM);
        for (int k = 0; k < outCount; k++) {
            if (outDot[k] > regionEnd(outRegion[k])) {
                return true;
            }
            if (outLoaded[k] == 1 && loadEnd(k) > romEnd) {
                return true;
            }
        }
        return false;
    }

    private static int regionBase(int region) {
        return region == REGION_ROM ? ROM_BASE : RAM_BASE;
    }

    private int regionEnd(int region) {
        return regionBase(region) + regionSize[region];
    }

    // ROM is blank since construction, as link succeeds but once. Load ranges
    // never meet, so each section's image can be built in its place in ROM:
    // zeroes, then the bytes, then the relocations over them.
    private void writeRom() {
        for (int k = 0; k < outCount; k++) {
            if (outLoaded[k] == 1) {
                int end = loadEnd(k);
                fill(outLma[k], end, 0);
            }
        }
        for (int s = 0; s < inCount; s++) {
            if (inLive[s] == 1 && inKind[s] != KIND_BSS) {
                writeFedBytes(s);
            }
        }
        for (int r = 0; r < relocCount; r++) {
            if (inLive[relocOwner[r]] == 1) {
                writeReloc(r);
            }
        }
    }

    private void writeFedBytes(int s) {
        int lma = lmaOfLive(s);
        int size = inSize[s];
        for (int i = 0; i < size; i++) {
            memory[lma + i] = fedBytes[inFirstByte[s] + i];
        }
    }

    private int lmaOfLive(int s) {
        int k = outOfLive(s);
        return inVma[s] + outLma[k] - outVma[k];
    }

    private void writeReloc(int r) {
        int at = lmaOfLive(relocOwner[r]) + relocOffset[r];
        int v = relocValue(r);
        memory[at] = v & 255;
        memory[at + 1] = (v >> 8) & 255;
    }

    private int relocValue(int r) {
        int target = relocTarget[r];
        switch (relocType[r]) {
            case R_ABS16:
                return inVma[target] + relocAddend[r];
            case R_LMA16:
                return lmaOfLive(target) + relocAddend[r];
            default:
                return inVma[target] + relocAddend[r] - (inVma[relocOwner[r]] + relocOffset[r]);
        }
    }

    private void makeFirstMembersResident() {
        for (int g = 0; g < groupCount; g++) {
            groupResident[g] = firstMember(g);
        }
    }

    private int firstMember(int g) {
        for (int k = 0; k < outCount; k++) {
            if (outGroup[k] == g) {
                return k;
            }
        }
        return NONE;
    }

    public int startup() {
        if (phase != PHASE_LINKED) {
            return ERR_STATE;
        }
        for (int g = 0; g < groupCount; g++) {
            fill(groupStart[g], groupEnd[g], 0);
        }
        for (int k = 0; k < outCount; k++) {
            // Before startup the resident member is still the first one.
            if (outRegion[k] == REGION_RAM && (outGroup[k] == NONE || isResident(k))) {
                initialise(k);
            }
        }
        phase = PHASE_STARTED;
        return OK;
    }

    private boolean isResident(int k) {
        return outGroup[k] != NONE && groupResident[outGroup[k]] == k;
    }

    private void initialise(int k) {
        int end = outDot[k];
        for (int x = outVma[k]; x < end; x++) {
            memory[x] = imageByte(k, x);
        }
    }

    // A NOLOAD section holds no fed bytes, so its image is zeroes; any other
    // image is what link wrote to ROM.
    private int imageByte(int k, int x) {
        return outLoaded[k] == 1 ? memory[outLma[k] + x - outVma[k]] : 0;
    }

    public int loadOverlay(int k) {
        if (phase != PHASE_STARTED) {
            return ERR_STATE;
        }
        if (k < 0 || k >= outCount || outGroup[k] == NONE) {
            return ERR_ARG;
        }
        int g = outGroup[k];
        fill(groupStart[g], groupEnd[g], 0);
        initialise(k);
        groupResident[g] = k;
        return OK;
    }

    public int romByte(int addr) {
        return phase != PHASE_FEED && isInRegion(REGION_ROM, addr) ? memory[addr] : -1;
    }

    public int ramByte(int addr) {
        return isInRegion(REGION_RAM, addr) ? memory[addr] : -1;
    }

    private boolean isInRegion(int region, int addr) {
        return addr >= regionBase(region) && addr < regionEnd(region);
    }

    public int runByte(int addr) {
        if (phase == PHASE_FEED) {
            return -1;
        }
        if (isInRegion(REGION_ROM, addr)) {
            return memory[addr];
        }
        return isInRegion(REGION_RAM, addr) ? runRamByte(addr) : -1;
    }

    private int runRamByte(int x) {
        for (int k = 0; k < outCount; k++) {
            if (outRegion[k] == REGION_RAM && outGroup[k] == NONE && covers(k, x)) {
                return imageByte(k, x);
            }
        }
        for (int g = 0; g < groupCount; g++) {
            if (x >= groupStart[g] && x < groupEnd[g]) {
                return residentByte(g, x);
            }
        }
        return BLANK;
    }

    private boolean covers(int k, int x) {
        return x >= outVma[k] && x < outDot[k];
    }

    private int residentByte(int g, int x) {
        int k = groupResident[g];
        return k != NONE && covers(k, x) ? imageByte(k, x) : 0;
    }

    public int outInfo(int k, int field) {
        if (phase == PHASE_FEED || k < 0 || k >= outCount) {
            return -1;
        }
        switch (field) {
            case OUT_VMA:
                return outVma[k];
            case OUT_LMA:
                return outLma[k];
            case OUT_SIZE:
                return sizeOfOut(k);
            case OUT_REGION:
                return outRegion[k];
            case OUT_LOADED:
                return outLoaded[k];
            case OUT_GROUP:
                return outGroup[k];
            case OUT_RESIDENT:
                return isResident(k) ? 1 : 0;
            case OUT_ALIGN:
                return outAlign[k];
            case OUT_SPAN_START:
                return outGroup[k] == NONE ? -1 : groupStart[outGroup[k]];
            case OUT_SPAN_END:
                return outGroup[k] == NONE ? -1 : groupEnd[outGroup[k]];
            default:
                return -1;
        }
    }

    public int inInfo(int s, int field) {
        if (s < 0 || s >= inCount) {
            return -1;
        }
        switch (field) {
            case IN_KIND:
                return inKind[s];
            case IN_ID:
                return inId[s];
            case IN_ALIGN:
                return inAlign[s];
            case IN_SIZE:
                return inSize[s];
            default:
                return phase == PHASE_FEED ? -1 : linkedInfo(s, field);
        }
    }

    private int linkedInfo(int s, int field) {
        boolean live = inLive[s] == 1;
        switch (field) {
            case IN_STMT:
                return inStmt[s];
            case IN_LIVE:
                return inLive[s];
            case IN_OUT:
                return live ? outOfLive(s) : -1;
            case IN_VMA:
                return live ? inVma[s] : -1;
            case IN_LMA:
                return live ? lmaOfLive(s) : -1;
            default:
                return -1;
        }
    }

    public int info(int field) {
        switch (field) {
            case INFO_PHASE:
                return phase;
            case INFO_STMTS:
                return stmtCount;
            case INFO_OUTS:
                return outCount;
            case INFO_INS:
                return inCount;
            case INFO_BYTES:
                return byteCount;
            case INFO_RELOCS:
                return relocCount;
            case INFO_GROUPS:
                return groupCount;
            case INFO_ROM_SIZE:
                return regionSize[REGION_ROM];
            case INFO_RAM_SIZE:
                return regionSize[REGION_RAM];
            case INFO_ROM_COUNTER:
                return phase == PHASE_FEED ? -1 : counter[REGION_ROM];
            case INFO_RAM_COUNTER:
                return phase == PHASE_FEED ? -1 : counter[REGION_RAM];
            default:
                return -1;
        }
    }
}
