import java.util.ArrayList;
import java.util.Arrays;
import java.util.HashSet;
import java.util.List;
import java.util.Set;

/**
 * The document once more, written with lists and with an image per output
 * section, so that a slip in LinkScript is not repeated here.
 */
final class Model {
    static final class Stmt {
        int op;
        int a;
        int b;
        Out out;
    }

    static final class Out {
        int number;
        int region;
        int loaded;
        int group = -1;
        int vma;
        int lma;
        int size;
        int align;
        boolean resident;
        int[] image = {};
    }

    static final class Group {
        List<Out> members = new ArrayList<>();
        int start;
        int end;
    }

    static final class In {
        int kind;
        int id;
        int align;
        int bssSize;
        List<Integer> bytes = new ArrayList<>();
        List<int[]> relocs = new ArrayList<>();
        int stmt = -1;
        boolean live;
        int vma;
        int lma;

        int size() {
            return kind == 3 ? bssSize : bytes.size();
        }
    }

    private final int romSize;
    private final int ramSize;
    private final int[] ram;
    private int[] rom;
    private int phase = 0;
    private final List<Stmt> stmts = new ArrayList<>();
    private final List<Out> outs = new ArrayList<>();
    private final List<Group> groups = new ArrayList<>();
    private final List<In> ins = new ArrayList<>();
    private boolean inSection;
    private boolean inGroup;
    private int c0;
    private int c1;

    Model(int romSize, int ramSize) {
        this.romSize = Math.max(16, Math.min(128, romSize));
        this.ramSize = Math.max(16, Math.min(128, ramSize));
        ram = new int[this.ramSize];
        Arrays.fill(ram, 255);
    }

    private static boolean within(int v, int low, int high) {
        return low <= v && v <= high;
    }

    private static boolean alignment(int m) {
        return List.of(1, 2, 4, 8, 16).contains(m);
    }

    private static int align(int x, int m) {
        int r = x;
        while (r % m != 0) {
            r++;
        }
        return r;
    }

    int script(int op, int a, int b) {
        if (phase != 0) {
            return -1;
        }
        if (!within(op, 1, 9)) {
            return -2;
        }
        boolean dot = within(op, 5, 7);
        boolean fits = op == 1 && !inSection
                || within(op, 2, 4) && inSection
                || dot && (inSection || !inGroup)
                || op == 8 && !inSection && !inGroup
                || op == 9 && inGroup && !inSection;
        if (!fits) {
            return -3;
        }
        boolean wrong = op == 1 && (!within(a, 0, 1) || !within(b, 0, 1) || a == 0 && b != 1 || inGroup && a != 1)
                || within(op, 3, 4) && (!within(a, -1, 15) || !within(b, 0, 3))
                || op == 5 && !within(a, 0, 1023)
                || op == 6 && !within(a, 0, 255)
                || op == 7 && !alignment(a)
                || dot && !inSection && !within(b, 0, 1);
        if (wrong) {
            return -2;
        }
        if (stmts.size() >= 32 || op == 1 && outs.size() >= 8 || op == 8 && groups.size() >= 4) {
            return -4;
        }
        take(op, a, b);
        return 0;
    }

    private void take(int op, int a, int b) {
        Stmt t = new Stmt();
        t.op = op;
        t.a = a;
        t.b = b;
        if (op == 1) {
            Out o = new Out();
            o.number = outs.size();
            o.region = a;
            o.loaded = b;
            if (inGroup) {
                o.group = groups.size() - 1;
                groups.get(o.group).members.add(o);
            }
            outs.add(o);
            inSection = true;
        }
        t.out = inSection ? outs.get(outs.size() - 1) : null;
        stmts.add(t);
        if (op == 2) {
            inSection = false;
        }
        if (op == 8) {
            groups.add(new Group());
            inGroup = true;
        }
        if (op == 9) {
            inGroup = false;
        }
    }

    int beginSection(int kind, int id, int align, int bssSize) {
        if (phase != 0) {
            return -1;
        }
        if (!within(kind, 1, 3) || !within(id, 0, 15) || !alignment(align)
                || kind == 3 && !within(bssSize, 0, 128)) {
            return -2;
        }
        if (ins.size() == 16) {
            return -4;
        }
        In s = new In();
        s.kind = kind;
        s.id = id;
        s.align = align;
        s.bssSize = bssSize;
        ins.add(s);
        return ins.size() - 1;
    }

    private In current() {
        return ins.isEmpty() ? null : ins.get(ins.size() - 1);
    }

    private int byteCount() {
        return ins.stream().mapToInt(s -> s.bytes.size()).sum();
    }

    private int relocCount() {
        return ins.stream().mapToInt(s -> s.relocs.size()).sum();
    }

    int addByte(int value) {
        if (phase != 0) {
            return -1;
        }
        if (current() == null || current().kind == 3) {
            return -3;
        }
        if (byteCount() == 256) {
            return -4;
        }
        current().bytes.add(value & 255);
        return 0;
    }

    int addReloc(int offset, int type, int target, int addend) {
        if (phase != 0) {
            return -1;
        }
        if (current() == null || current().kind == 3) {
            return -3;
        }
        if (!within(type, 1, 3) || !within(offset, 0, current().size() - 2) || !within(target, 0, 15)
                || !within(addend, -256, 255)) {
            return -2;
        }
        if (relocCount() == 32) {
            return -4;
        }
        current().relocs.add(new int[] {offset, type, target, addend});
        return 0;
    }

    private int statementOf(In s) {
        for (int i = 0; i < stmts.size(); i++) {
            Stmt t = stmts.get(i);
            if (within(t.op, 3, 4) && (t.a == -1 || t.a == s.id) && (t.b == 0 || t.b == s.kind)) {
                return i;
            }
        }
        return -1;
    }

    private boolean assigned(int s) {
        return s < ins.size() && statementOf(ins.get(s)) >= 0;
    }

    private void reach(int s, Set<Integer> live) {
        if (assigned(s) && live.add(s)) {
            for (int[] r : ins.get(s).relocs) {
                reach(r[2], live);
            }
        }
    }

    int link(boolean gc) {
        if (phase != 0) {
            return -1;
        }
        if (inSection || inGroup) {
            return -5;
        }
        Set<Integer> live = new HashSet<>();
        for (int s = 0; s < ins.size(); s++) {
            if (assigned(s) && (!gc || stmts.get(statementOf(ins.get(s))).op == 4)) {
                reach(s, live);
            }
        }
        for (int s : live) {
            for (int[] r : ins.get(s).relocs) {
                if (!assigned(r[2])) {
                    return -6;
                }
            }
        }
        for (int s : live) {
            if (ins.get(s).kind != 3 && stmts.get(statementOf(ins.get(s))).out.loaded == 0) {
                return -7;
            }
        }
        for (int s = 0; s < ins.size(); s++) {
            ins.get(s).stmt = statementOf(ins.get(s));
            ins.get(s).live = live.contains(s);
        }
        if (!walk()) {
            return -8;
        }
        for (Out o : outs) {
            int end = o.region == 0 ? romSize : 256 + ramSize;
            if (o.vma + o.size > end || o.region == 1 && o.loaded == 1 && o.lma + o.size > romSize) {
                return -9;
            }
        }
        for (Group g : groups) {
            if (!g.members.isEmpty()) {
                g.members.get(0).resident = true;
            }
        }
        writeRom();
        phase = 1;
        return 0;
    }

    private boolean walk() {
        c0 = 0;
        c1 = 256;
        int dot = 0;
        int group = -1;
        for (int i = 0; i < stmts.size(); i++) {
            Stmt t = stmts.get(i);
            Out o = t.out;
            switch (t.op) {
                case 1:
                    o.align = 1;
                    for (In s : ins) {
                        if (s.live && stmts.get(s.stmt).out == o) {
                            o.align = Math.max(o.align, s.align);
                        }
                    }
                    int base = o.group >= 0 ? groups.get(o.group).start : o.region == 0 ? c0 : c1;
                    o.vma = align(base, o.align);
                    o.lma = o.region == 1 && o.loaded == 1 ? align(c0, o.align) : o.vma;
                    dot = o.vma;
                    break;
                case 2:
                    o.size = dot - o.vma;
                    if (o.region == 0) {
                        c0 = dot;
                    } else if (o.group >= 0) {
                        Group g = groups.get(o.group);
                        g.end = Math.max(g.end, dot);
                    } else {
                        c1 = dot;
                    }
                    if (o.region == 1 && o.loaded == 1) {
                        c0 = o.lma + o.size;
                    }
                    break;
                case 3:
                case 4:
                    for (In s : ins) {
                        if (s.live && s.stmt == i) {
                            dot = align(dot, s.align);
                            s.vma = dot;
                            s.lma = dot + (o.lma - o.vma);
                            dot += s.size();
                        }
                    }
                    break;
                case 8:
                    group++;
                    groups.get(group).start = c1;
                    groups.get(group).end = c1;
                    break;
                case 9:
                    c1 = groups.get(group).end;
                    break;
                default:
                    int from = o != null ? dot : t.b == 0 ? c0 : c1;
                    int to = t.op == 5 ? t.a : t.op == 6 ? from + t.a : align(from, t.a);
                    if (to < from) {
                        return false;
                    }
                    if (o != null) {
                        dot = to;
                    } else if (t.b == 0) {
                        c0 = to;
                    } else {
                        c1 = to;
                    }
            }
        }
        return true;
    }

    private int[] relocated(In s) {
        int[] bytes = s.bytes.stream().mapToInt(v -> v).toArray();
        for (int[] r : s.relocs) {
            In target = ins.get(r[2]);
            int v = r[3] + (r[1] == 2 ? target.lma : target.vma) - (r[1] == 3 ? s.vma + r[0] : 0);
            bytes[r[0]] = Math.floorMod(v, 256);
            bytes[r[0] + 1] = Math.floorMod(Math.floorDiv(v, 256), 256);
        }
        return bytes;
    }

    private void writeRom() {
        rom = new int[romSize];
        Arrays.fill(rom, 255);
        for (Out o : outs) {
            o.image = new int[o.size];
            for (In s : ins) {
                if (s.live && s.kind != 3 && stmts.get(s.stmt).out == o) {
                    int[] bytes = relocated(s);
                    System.arraycopy(bytes, 0, o.image, s.vma - o.vma, bytes.length);
                }
            }
            if (o.loaded == 1) {
                System.arraycopy(o.image, 0, rom, o.lma, o.size);
            }
        }
    }

    int startup() {
        if (phase != 1) {
            return -1;
        }
        for (Group g : groups) {
            clear(g);
        }
        for (Out o : outs) {
            if (o.region == 1 && (o.group < 0 || groups.get(o.group).members.get(0) == o)) {
                bring(o);
            }
        }
        phase = 2;
        return 0;
    }

    private void clear(Group g) {
        for (int x = g.start; x < g.end; x++) {
            ram[x - 256] = 0;
        }
    }

    private void bring(Out o) {
        for (int i = 0; i < o.size; i++) {
            ram[o.vma - 256 + i] = o.loaded == 1 ? rom[o.lma + i] : 0;
        }
    }

    int loadOverlay(int k) {
        if (phase != 2) {
            return -1;
        }
        if (!within(k, 0, outs.size() - 1) || outs.get(k).group < 0) {
            return -2;
        }
        Group g = groups.get(outs.get(k).group);
        clear(g);
        bring(outs.get(k));
        for (Out o : g.members) {
            o.resident = o.number == k;
        }
        return 0;
    }

    int romByte(int addr) {
        return phase == 0 || !within(addr, 0, romSize - 1) ? -1 : rom[addr];
    }

    int ramByte(int addr) {
        return within(addr, 256, 255 + ramSize) ? ram[addr - 256] : -1;
    }

    int runByte(int addr) {
        if (phase == 0 || within(addr, 0, romSize - 1) || !within(addr, 256, 255 + ramSize)) {
            return romByte(addr);
        }
        for (Out o : outs) {
            if (o.region == 1 && o.group < 0 && within(addr, o.vma, o.vma + o.size - 1)) {
                return o.image[addr - o.vma];
            }
        }
        for (Group g : groups) {
            if (within(addr, g.start, g.end - 1)) {
                for (Out o : g.members) {
                    if (o.resident && within(addr, o.vma, o.vma + o.size - 1)) {
                        return o.image[addr - o.vma];
                    }
                }
                return 0;
            }
        }
        return 255;
    }

    int outInfo(int k, int field) {
        if (phase == 0 || !within(k, 0, outs.size() - 1) || !within(field, 0, 9)) {
            return -1;
        }
        Out o = outs.get(k);
        int start = o.group < 0 ? -1 : groups.get(o.group).start;
        int end = o.group < 0 ? -1 : groups.get(o.group).end;
        int[] all = {o.vma, o.lma, o.size, o.region, o.loaded, o.group, o.resident ? 1 : 0, o.align, start, end};
        return all[field];
    }

    int inInfo(int k, int field) {
        if (!within(k, 0, ins.size() - 1) || !within(field, 0, 8) || field > 3 && phase == 0) {
            return -1;
        }
        In s = ins.get(k);
        int out = s.live ? stmts.get(s.stmt).out.number : -1;
        int[] all = {s.kind, s.id, s.align, s.size(), s.stmt, s.live ? 1 : 0, out,
            s.live ? s.vma : -1, s.live ? s.lma : -1};
        return all[field];
    }

    int info(int field) {
        if (!within(field, 0, 10)) {
            return -1;
        }
        int[] all = {phase, stmts.size(), outs.size(), ins.size(), byteCount(), relocCount(), groups.size(),
            romSize, ramSize, phase == 0 ? -1 : c0, phase == 0 ? -1 : c1};
        return all[field];
    }
}
