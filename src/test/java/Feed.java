/** Steps that many tests share; each checks that the calls it makes are taken. */
final class Feed {
    private Feed() {
    }

    static void stmt(LinkScript x, int op, int a, int b) {
        Check.due("script(" + op + ", " + a + ", " + b + ")", x.script(op, a, b), LinkScript.OK);
    }

    static void open(LinkScript x, int region, int loaded) {
        stmt(x, LinkScript.OP_SECTION, region, loaded);
    }

    static void end(LinkScript x) {
        stmt(x, LinkScript.OP_END, 0, 0);
    }

    static void openGroup(LinkScript x) {
        stmt(x, LinkScript.OP_OVERLAY, 0, 0);
    }

    static void endGroup(LinkScript x) {
        stmt(x, LinkScript.OP_OVERLAY_END, 0, 0);
    }

    /** An output section with one input statement for the id, of any kind. */
    static void section(LinkScript x, int region, int loaded, int op, int id) {
        open(x, region, loaded);
        stmt(x, op, id, 0);
        end(x);
    }

    static int bytes(LinkScript x, int kind, int id, int align, int... values) {
        int s = x.beginSection(kind, id, align, 0);
        Check.due("beginSection is taken", s >= 0 ? 1 : 0, 1);
        for (int value : values) {
            Check.due("addByte(" + value + ")", x.addByte(value), LinkScript.OK);
        }
        return s;
    }

    static int bss(LinkScript x, int id, int align, int size) {
        int s = x.beginSection(LinkScript.KIND_BSS, id, align, size);
        Check.due("beginSection is taken", s >= 0 ? 1 : 0, 1);
        return s;
    }

    /** As many bytes as asked for in a new section, each the given value. */
    static int filled(LinkScript x, int kind, int id, int align, int size, int value) {
        int s = bytes(x, kind, id, align);
        for (int i = 0; i < size; i++) {
            Check.due("addByte(" + value + ")", x.addByte(value), LinkScript.OK);
        }
        return s;
    }

    static void reloc(LinkScript x, int offset, int type, int target, int addend) {
        Check.due("addReloc(" + offset + ", " + type + ", " + target + ", " + addend + ")",
                x.addReloc(offset, type, target, addend), LinkScript.OK);
    }

    static void link(LinkScript x, boolean gc) {
        Check.due("link(" + gc + ")", x.link(gc), LinkScript.OK);
    }

    static void start(LinkScript x) {
        Check.due("startup()", x.startup(), LinkScript.OK);
    }

    /** An object in phase LINKED, with nothing fed. */
    static LinkScript linked() {
        LinkScript x = new LinkScript(16, 16);
        link(x, false);
        return x;
    }

    /** An object in phase STARTED, with nothing fed. */
    static LinkScript started() {
        LinkScript x = linked();
        start(x);
        return x;
    }

    static void load(LinkScript x, int k) {
        Check.due("loadOverlay(" + k + ")", x.loadOverlay(k), LinkScript.OK);
    }

    static void rom(String when, LinkScript x, int from, int... values) {
        for (int i = 0; i < values.length; i++) {
            Check.due(when + ": romByte(" + (from + i) + ")", x.romByte(from + i), values[i]);
        }
    }

    static void ram(String when, LinkScript x, int from, int... values) {
        for (int i = 0; i < values.length; i++) {
            Check.due(when + ": ramByte(" + (from + i) + ")", x.ramByte(from + i), values[i]);
        }
    }

    static void run(String when, LinkScript x, int from, int... values) {
        for (int i = 0; i < values.length; i++) {
            Check.due(when + ": runByte(" + (from + i) + ")", x.runByte(from + i), values[i]);
        }
    }

    /** The first fields of outInfo: vma, lma, size and so on. */
    static void out(String when, LinkScript x, int k, int... values) {
        for (int f = 0; f < values.length; f++) {
            Check.due(when + ": outInfo(" + k + ", " + f + ")", x.outInfo(k, f), values[f]);
        }
    }

    /** The fields of inInfo from IN_STMT on: statement, live, out, vma, lma. */
    static void in(String when, LinkScript x, int s, int... values) {
        for (int i = 0; i < values.length; i++) {
            int f = LinkScript.IN_STMT + i;
            Check.due(when + ": inInfo(" + s + ", " + f + ")", x.inInfo(s, f), values[i]);
        }
    }

    static void info(String when, LinkScript x, int field, int want) {
        Check.due(when + ": info(" + field + ")", x.info(field), want);
    }
}
