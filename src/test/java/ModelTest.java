/** Many runs of made-up calls, each answered by LinkScript and by the Model. */
public final class ModelTest {
    private static final int RUNS = 6000;

    private final MadeUp calls;
    private final String name;
    private final LinkScript x;
    private final Model y;

    private ModelTest(int seed) {
        calls = new MadeUp(seed);
        name = "seed " + seed + ": ";
        int romSize = calls.regionSize();
        int ramSize = calls.regionSize();
        x = new LinkScript(romSize, ramSize);
        y = new Model(romSize, ramSize);
    }

    public static void main(String[] args) {
        int[] answers = new int[10];
        // One wrong run says enough; the rest would bury it.
        for (int seed = 0; seed < RUNS && Check.allAsDue(); seed++) {
            answers[-new ModelTest(seed).run()]++;
        }
        // A generator that never links, or never meets a refusal, tests little.
        for (int code = 0; code < answers.length; code++) {
            boolean fromLink = code == 0 || code >= 5;
            boolean enough = !fromLink || answers[code] > 50 || !Check.allAsDue();
            Check.due("enough links that answer " + -code, enough ? 1 : 0, 1);
        }
        Check.finish();
    }

    private int run() {
        compareAll("new");
        feed(10 + calls.upTo(110));
        if (calls.chance(20)) {
            compareAll("fed");
        }
        if (calls.chance(95)) {
            close();
        }
        boolean gc = calls.chance(50);
        int first = make(Call.link(gc));
        compareAll("after the first link");
        feed(5);
        close();
        make(Call.link(!gc));
        make(Call.loadOverlay(0));
        compareAll("after the second link");
        make(Call.startup());
        compareAll("started");
        for (int i = 0; i < 6; i++) {
            Call load = Call.loadOverlay(calls.upTo(10) - 1);
            make(load);
            compareAll("after " + load);
        }
        make(Call.startup());
        feed(1);
        compareAll("at the end");
        return first;
    }

    private void feed(int steps) {
        for (int i = 0; i < steps; i++) {
            for (Call c : calls.feeding()) {
                make(c);
            }
        }
    }

    private void close() {
        for (Call c : calls.closing()) {
            make(c);
        }
    }

    private int make(Call c) {
        int answer = c.on(x);
        same(c.toString(), answer, c.on(y));
        if (answer == LinkScript.OK) {
            calls.taken(c);
        }
        return answer;
    }

    private void same(String call, int got, int want) {
        Check.due(name + call, got, want);
    }

    private void compareAll(String when) {
        for (int f = -1; f <= 11; f++) {
            same(when + ": info " + f, x.info(f), y.info(f));
        }
        for (int k = -1; k <= 8; k++) {
            for (int f = -1; f <= 10; f++) {
                same(when + ": outInfo " + k + " " + f, x.outInfo(k, f), y.outInfo(k, f));
            }
        }
        for (int s = -1; s <= 16; s++) {
            for (int f = -1; f <= 9; f++) {
                same(when + ": inInfo " + s + " " + f, x.inInfo(s, f), y.inInfo(s, f));
            }
        }
        for (int addr = -1; addr <= 385; addr++) {
            same(when + ": romByte " + addr, x.romByte(addr), y.romByte(addr));
            same(when + ": ramByte " + addr, x.ramByte(addr), y.ramByte(addr));
            same(when + ": runByte " + addr, x.runByte(addr), y.runByte(addr));
        }
    }
}
