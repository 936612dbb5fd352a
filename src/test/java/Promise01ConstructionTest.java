public final class Promise01ConstructionTest {
    public static void main(String[] args) {
        sizesAreClamped();
        nothingIsFed();
        ramIsBlankToItsLastByte();
        objectsShareNothing();
        Check.finish();
    }

    private static void sizesAreClamped() {
        int[] given = {Integer.MIN_VALUE, -1, 0, 15, 16, 17, 127, 128, 129, Integer.MAX_VALUE};
        int[] kept = {16, 16, 16, 16, 16, 17, 127, 128, 128, 128};
        for (int i = 0; i < given.length; i++) {
            LinkScript x = new LinkScript(given[i], 40);
            Feed.info("romSize " + given[i], x, LinkScript.INFO_ROM_SIZE, kept[i]);
            Feed.info("romSize " + given[i], x, LinkScript.INFO_RAM_SIZE, 40);
            LinkScript y = new LinkScript(40, given[i]);
            Feed.info("ramSize " + given[i], y, LinkScript.INFO_ROM_SIZE, 40);
            Feed.info("ramSize " + given[i], y, LinkScript.INFO_RAM_SIZE, kept[i]);
        }
    }

    private static void nothingIsFed() {
        LinkScript x = new LinkScript(64, 64);
        for (int f = LinkScript.INFO_PHASE; f <= LinkScript.INFO_GROUPS; f++) {
            Feed.info("new", x, f, 0);
        }
        Check.due("new: addByte has no current section", x.addByte(1), LinkScript.ERR_CONTEXT);
        Check.due("new: addReloc has no current section", x.addReloc(0, 1, 0, 0), LinkScript.ERR_CONTEXT);
        Check.due("new: inInfo(0, 0)", x.inInfo(0, 0), -1);
        Check.due("new: the first section", x.beginSection(1, 0, 1, 0), 0);
    }

    private static void ramIsBlankToItsLastByte() {
        int[] sizes = {16, 77, 128};
        for (int size : sizes) {
            LinkScript x = new LinkScript(16, size);
            for (int i = 0; i < size; i++) {
                Feed.ram("new", x, 256 + i, 255);
            }
            Feed.ram("new", x, 256 + size, -1);
        }
    }

    private static void objectsShareNothing() {
        LinkScript x = new LinkScript(64, 64);
        Feed.open(x, 0, 1);
        Feed.bytes(x, 1, 0, 1, 9);
        LinkScript y = new LinkScript(32, 32);
        Feed.info("second object", y, LinkScript.INFO_STMTS, 0);
        Feed.info("second object", y, LinkScript.INFO_BYTES, 0);
        Feed.info("first object", x, LinkScript.INFO_ROM_SIZE, 64);
        Feed.info("first object", x, LinkScript.INFO_STMTS, 1);
    }
}
