public final class Promise09To11BytesTest {
    private static final int[] FAR = {Integer.MIN_VALUE, -257, -256, -1, 384, 1024, Integer.MAX_VALUE};

    public static void main(String[] args) {
        romByte();
        ramByte();
        runByteInFeed();
        runByteWhenLinked();
        runByteOfResidents();
        gettersChangeNothing();
        Check.finish();
    }

    private static void romByte() {
        LinkScript feed = new LinkScript(20, 64);
        Feed.rom("feed", feed, 0, -1, -1);
        Feed.link(feed, false);
        for (int i = 0; i < 20; i++) {
            Feed.rom("linked", feed, i, 255);
        }
        int[] outside = {20, 127, 128, 255, 256, 300};
        for (int addr : outside) {
            Feed.rom("outside", feed, addr, -1);
        }
        for (int addr : FAR) {
            Feed.rom("outside", feed, addr, -1);
        }
        LinkScript x = Overlays.linked();
        Overlays.romIs("linked", x);
        Feed.rom("linked", x, 63, 255, -1);
        Feed.start(x);
        Overlays.romIs("started", x);
    }

    private static void ramByte() {
        LinkScript x = new LinkScript(64, 20);
        LinkScript[] phases = {x, Overlays.linked(), Overlays.started()};
        int[] sizes = {20, 32, 32};
        for (int i = 0; i < phases.length; i++) {
            Feed.ram("last byte", phases[i], 256 + sizes[i] - 1, 255, -1);
            Feed.ram("before RAM", phases[i], 255, -1);
            Feed.ram("in ROM", phases[i], 0, -1);
            for (int addr : FAR) {
                Feed.ram("outside", phases[i], addr, -1);
            }
        }
        Feed.ram("feed", x, 256, 255);
        Feed.ram("linked", phases[1], 256, 255);
        Feed.ram("started", phases[2], 256, 11);
    }

    private static void runByteInFeed() {
        LinkScript x = new LinkScript(64, 64);
        Feed.run("feed", x, 0, -1);
        Feed.run("feed", x, 256, -1);
    }

    private static void runByteWhenLinked() {
        LinkScript x = Overlays.linked();
        for (int i = 0; i < 64; i++) {
            Check.due("ROM: runByte(" + i + ")", x.runByte(i), x.romByte(i));
        }
        Feed.run("linked", x, 256,
                11, 12, 255, 255, 21, 22, 23, 24, 0, 0, 0, 51, 52, 0, 0, 0, 0, 255, 255);
        Feed.run("last byte of RAM", x, 287, 255, -1);
        Feed.run("between ROM and RAM", x, 64, -1);
        Feed.run("before RAM", x, 255, -1);
        for (int addr : FAR) {
            Feed.run("outside", x, addr, -1);
        }
    }

    private static void runByteOfResidents() {
        LinkScript x = Overlays.started();
        x.loadOverlay(3);
        x.loadOverlay(6);
        Feed.run("swapped", x, 256,
                11, 12, 255, 255, 31, 32, 0, 0, 0, 0, 0, 0, 0, 0, 0, 0, 0, 255);
        Overlays.runIsMemory("swapped", x);
        x.loadOverlay(5);
        Feed.run("swapped back", x, 266, 0, 51, 52, 0, 0, 0);
        Overlays.runIsMemory("swapped back", x);
    }

    private static void gettersChangeNothing() {
        LinkScript x = Overlays.linked();
        for (int round = 0; round < 2; round++) {
            for (int addr = -3; addr < 400; addr++) {
                x.romByte(addr);
                x.ramByte(addr);
                x.runByte(addr);
            }
            for (int k = -1; k < 20; k++) {
                for (int field = -1; field < 12; field++) {
                    x.outInfo(k, field);
                    x.inInfo(k, field);
                    x.info(field);
                }
            }
            Overlays.romIs("after the getters", x);
            Overlays.residentsAre("after the getters", x, 2, 5, 7);
            Feed.ram("after the getters", x, 256, 255, 255);
            Feed.info("after the getters", x, LinkScript.INFO_PHASE, LinkScript.PHASE_LINKED);
        }
    }
}
