/**
 * An object with three groups, for the tests of startup, loadOverlay and the
 * getters. Outputs 0 (ROM), 1 (RAM, at 256), 2 and 3 (group 0, span 260 to
 * 264), 4 (NOLOAD, at 264), 5 and 6 (group 1, span 267 to 271; 6 is NOLOAD and
 * at 268), 7 (group 2, NOLOAD, span 271 to 273).
 */
final class Overlays {
    private Overlays() {
    }

    static LinkScript linked() {
        LinkScript x = new LinkScript(64, 32);
        Feed.section(x, LinkScript.REGION_ROM, 1, LinkScript.OP_KEEP, 0);
        Feed.section(x, LinkScript.REGION_RAM, 1, LinkScript.OP_KEEP, 1);
        Feed.stmt(x, LinkScript.OP_DOT_ADD, 2, 1);
        group(x, 2, 1, 3, 1);
        Feed.section(x, LinkScript.REGION_RAM, 0, LinkScript.OP_KEEP, 4);
        group(x, 5, 1, 6, 0);
        Feed.stmt(x, LinkScript.OP_OVERLAY, 0, 0);
        Feed.section(x, LinkScript.REGION_RAM, 0, LinkScript.OP_KEEP, 7);
        Feed.stmt(x, LinkScript.OP_OVERLAY_END, 0, 0);
        Feed.bytes(x, LinkScript.KIND_TEXT, 0, 1, 1, 2, 3);
        Feed.bytes(x, LinkScript.KIND_DATA, 1, 1, 11, 12);
        Feed.bytes(x, LinkScript.KIND_DATA, 2, 1, 21, 22, 23, 24);
        Feed.bytes(x, LinkScript.KIND_DATA, 3, 2, 31, 32);
        Feed.bss(x, 4, 1, 3);
        Feed.bytes(x, LinkScript.KIND_DATA, 5, 1, 51, 52);
        Feed.bss(x, 6, 4, 3);
        Feed.bss(x, 7, 1, 2);
        Feed.link(x, true);
        return x;
    }

    private static void group(LinkScript x, int id, int loaded, int id2, int loaded2) {
        Feed.stmt(x, LinkScript.OP_OVERLAY, 0, 0);
        Feed.section(x, LinkScript.REGION_RAM, loaded, LinkScript.OP_KEEP, id);
        Feed.section(x, LinkScript.REGION_RAM, loaded2, LinkScript.OP_KEEP, id2);
        Feed.stmt(x, LinkScript.OP_OVERLAY_END, 0, 0);
    }

    static LinkScript started() {
        LinkScript x = linked();
        Feed.start(x);
        return x;
    }

    /** RAM holds these bytes, and 255 behind them to its end, as the run image does. */
    static void ramIs(String when, LinkScript x, int... values) {
        Feed.ram(when, x, 256, values);
        for (int i = values.length; i < 32; i++) {
            Feed.ram(when, x, 256 + i, 255);
        }
        Feed.ram(when, x, 256 + 32, -1);
        runIsMemory(when, x);
    }

    static void runIsMemory(String when, LinkScript x) {
        for (int i = -2; i < 400; i++) {
            int memory = i < 256 ? x.romByte(i) : x.ramByte(i);
            Check.due(when + ": runByte(" + i + ")", x.runByte(i), memory);
        }
    }

    static void romIs(String when, LinkScript x) {
        Feed.rom(when, x, 0, 1, 2, 3, 11, 12, 21, 22, 23, 24, 255, 31, 32, 51, 52, 255);
    }

    static void residentsAre(String when, LinkScript x, int... residents) {
        residentsOf(when, x, LinkScript.MAX_OUT, residents);
    }

    /** Of so many output sections these are resident, and no other. */
    static void residentsOf(String when, LinkScript x, int outs, int... residents) {
        for (int k = 0; k < outs; k++) {
            int want = 0;
            for (int resident : residents) {
                want = resident == k ? 1 : want;
            }
            Check.due(when + ": resident " + k, x.outInfo(k, LinkScript.OUT_RESIDENT), want);
        }
    }
}
