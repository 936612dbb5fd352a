/** Promise 6: where the output sections of a linked object may lie. */
final class Ranges {
    private Ranges() {
    }

    /** All output sections lie within their regions, and apart unless they share a group. */
    static void areApart(String when, LinkScript x) {
        int outs = x.info(LinkScript.INFO_OUTS);
        for (int i = 0; i < outs; i++) {
            areWithin(when, x, i);
            for (int j = 0; j < i; j++) {
                int group = x.outInfo(i, LinkScript.OUT_GROUP);
                boolean together = group >= 0 && group == x.outInfo(j, LinkScript.OUT_GROUP);
                int region = x.outInfo(i, LinkScript.OUT_REGION);
                if (!together && region == x.outInfo(j, LinkScript.OUT_REGION)) {
                    apart(when, x, i, j, LinkScript.OUT_VMA);
                }
                if (isLoaded(x, i) && isLoaded(x, j)) {
                    apart(when, x, i, j, LinkScript.OUT_LMA);
                }
            }
        }
    }

    private static boolean isLoaded(LinkScript x, int k) {
        return x.outInfo(k, LinkScript.OUT_LOADED) == 1;
    }

    private static int end(LinkScript x, int k, int start) {
        return x.outInfo(k, start) + x.outInfo(k, LinkScript.OUT_SIZE);
    }

    private static void apart(String when, LinkScript x, int i, int j, int start) {
        boolean apart = end(x, i, start) <= x.outInfo(j, start) || end(x, j, start) <= x.outInfo(i, start);
        Check.due(when + ": field " + start + ": " + i + " and " + j + " are apart", apart ? 1 : 0, 1);
    }

    private static void areWithin(String when, LinkScript x, int k) {
        int romSize = x.info(LinkScript.INFO_ROM_SIZE);
        if (x.outInfo(k, LinkScript.OUT_REGION) == LinkScript.REGION_ROM) {
            within(when, x, k, LinkScript.OUT_VMA, 0, romSize);
        } else {
            within(when, x, k, LinkScript.OUT_VMA, 256, 256 + x.info(LinkScript.INFO_RAM_SIZE));
        }
        if (isLoaded(x, k)) {
            within(when, x, k, LinkScript.OUT_LMA, 0, romSize);
        }
    }

    private static void within(String when, LinkScript x, int k, int start, int low, int high) {
        boolean within = x.outInfo(k, start) >= low && end(x, k, start) <= high;
        Check.due(when + ": field " + start + ": " + k + " is within its region", within ? 1 : 0, 1);
    }
}
