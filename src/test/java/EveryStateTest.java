import java.util.Arrays;
import java.util.HashSet;
import java.util.List;
import java.util.Set;
import java.util.function.Predicate;

/**
 * The sentences that speak of more than one promise, looked at after each call
 * of many made-up runs: a refused call changes nothing and a taken one only
 * what is its to change, there is no way back, ranges stay apart, and memory
 * is the run image. The same calls go to an object that no getter looks at
 * before the end, and the taken ones to an object that has no other calls, so
 * what a getter or a refused call changes unseen shows later.
 */
public final class EveryStateTest {
    private static final int RUNS = 1000;
    private static final int[] EXTREMES = {Integer.MIN_VALUE, -1, 1000, Integer.MAX_VALUE};
    // By code: how many calls were refused with it.
    private static final int[] REFUSED = new int[10];
    private static int swaps = 0;

    private final MadeUp calls;
    private final String name;
    private final LinkScript x;
    private final LinkScript unseen;
    private final LinkScript unrefused;
    private State last;

    private EveryStateTest(int seed) {
        calls = new MadeUp(seed);
        name = "seed " + seed + ": ";
        int romSize = calls.regionSize();
        int ramSize = calls.regionSize();
        x = new LinkScript(romSize, ramSize);
        unseen = new LinkScript(romSize, ramSize);
        unrefused = new LinkScript(romSize, ramSize);
        last = State.of(x);
    }

    public static void main(String[] args) {
        // One wrong run says enough; the rest would bury it.
        for (int seed = 0; seed < RUNS && Check.allAsDue(); seed++) {
            new EveryStateTest(seed).run();
        }
        if (Check.allAsDue()) {
            for (int code = 1; code < REFUSED.length; code++) {
                Check.due("enough refusals with " + -code, REFUSED[code] > 20 ? 1 : 0, 1);
            }
            Check.due("enough overlays swapped", swaps > 1000 ? 1 : 0, 1);
        }
        Check.finish();
    }

    private void run() {
        feed(20 + calls.upTo(80));
        for (int i = 0; i < 3; i++) {
            closeAndLink();
            feed(4);
        }
        makeAny(6);
        make(Call.startup());
        makeAny(30);
        last.isStill(name + "the object that no getter looked at", unseen);
        last.isStill(name + "the object without refused calls", unrefused);
    }

    private void feed(int steps) {
        for (int i = 0; i < steps; i++) {
            for (Call c : calls.feeding()) {
                make(c);
            }
            if (calls.chance(3)) {
                make(any());
            }
        }
    }

    private void closeAndLink() {
        if (calls.chance(90)) {
            for (Call c : calls.closing()) {
                make(c);
            }
        }
        make(Call.link(calls.chance(50)));
    }

    private void makeAny(int count) {
        for (int i = 0; i < count; i++) {
            make(any());
        }
    }

    private Call any() {
        int extreme = EXTREMES[calls.upTo(EXTREMES.length)];
        return switch (calls.upTo(12)) {
            case 0 -> Call.link(calls.chance(50));
            case 1 -> Call.startup();
            case 2 -> Call.script(extreme, 0, 0);
            case 3 -> Call.beginSection(extreme, 0, 1, extreme);
            case 4 -> Call.addReloc(0, 1, extreme, extreme);
            case 5 -> Call.loadOverlay(extreme);
            case 6, 7 -> calls.feeding().get(0);
            default -> Call.loadOverlay(calls.upTo(9));
        };
    }

    private void make(Call c) {
        int phase = x.info(LinkScript.INFO_PHASE);
        int answer = c.on(x);
        String when = name + c;
        Check.due(when + " of the object that no getter looked at", c.on(unseen), answer);
        if (answer < 0) {
            Check.due(when + ": a code, " + answer, answer >= LinkScript.ERR_OVERFLOW ? 1 : 0, 1);
            REFUSED[-answer % REFUSED.length]++;
            last.isStill(when + " refused", x);
        } else {
            calls.taken(c);
            Check.due(when + " of the object without refused calls", c.on(unrefused), answer);
            last.isStillBut(when + " taken", x, free(c));
            phaseFollows(when, c, phase);
        }
        if (c.is("loadOverlay") && answer == LinkScript.OK) {
            Check.due(when + " makes it resident", x.outInfo(c.args()[0], LinkScript.OUT_RESIDENT), 1);
        }
        last = State.of(x);
        holdsInEveryState(when);
    }

    private void phaseFollows(String when, Call c, int before) {
        int needed = c.is("startup") ? LinkScript.PHASE_LINKED
                : c.is("loadOverlay") ? LinkScript.PHASE_STARTED : LinkScript.PHASE_FEED;
        int next = c.is("link") || c.is("startup") ? needed + 1 : needed;
        Check.due(when + " is taken in its phase", before, needed);
        Check.due(when + " taken: phase", x.info(LinkScript.INFO_PHASE), next);
    }

    // The getters that may answer anew when the call is taken.
    private Predicate<String> free(Call c) {
        int newest = x.info(LinkScript.INFO_INS) - 1;
        return switch (c.method()) {
            case "script" -> Set.of("info(1)", "info(2)", "info(6)")::contains;
            case "beginSection" -> g -> g.equals("info(3)") || g.startsWith("inInfo(" + newest + ", ");
            case "addByte" -> Set.of("info(4)", "inInfo(" + newest + ", 3)")::contains;
            case "addReloc" -> "info(5)"::equals;
            case "link" -> EveryStateTest::isFreeInLink;
            case "startup" -> g -> g.equals("info(0)") || g.startsWith("ramByte(");
            default -> freeInLoad(c.args()[0])::contains;
        };
    }

    private static boolean isFreeInLink(String getter) {
        boolean ofSections = getter.startsWith("outInfo(") || getter.matches("inInfo\\(.*, [4-8]\\)");
        boolean ofBytes = getter.startsWith("romByte(") || getter.startsWith("runByte(");
        return ofSections || ofBytes || Set.of("info(0)", "info(9)", "info(10)").contains(getter);
    }

    private Set<String> freeInLoad(int k) {
        swaps++;
        Set<String> all = new HashSet<>();
        int end = x.outInfo(k, LinkScript.OUT_SPAN_END);
        for (int addr = x.outInfo(k, LinkScript.OUT_SPAN_START); addr < end; addr++) {
            all.addAll(List.of("ramByte(" + addr + ")", "runByte(" + addr + ")"));
        }
        for (int j = 0; j < x.info(LinkScript.INFO_OUTS); j++) {
            if (x.outInfo(j, LinkScript.OUT_GROUP) == x.outInfo(k, LinkScript.OUT_GROUP)) {
                all.add("outInfo(" + j + ", " + LinkScript.OUT_RESIDENT + ")");
            }
        }
        return all;
    }

    private void holdsInEveryState(String when) {
        int phase = x.info(LinkScript.INFO_PHASE);
        if (phase != LinkScript.PHASE_FEED) {
            Ranges.areApart(when, x);
            eachGroupHasOneResident(when);
        }
        if (phase == LinkScript.PHASE_STARTED) {
            Overlays.runIsMemory(when, x);
            ramIsWrittenDirectly(when);
        } else {
            ramIs(when, blankRam());
        }
    }

    private void eachGroupHasOneResident(String when) {
        int[] members = new int[LinkScript.MAX_GROUPS];
        int[] residents = new int[LinkScript.MAX_GROUPS];
        for (int k = 0; k < x.info(LinkScript.INFO_OUTS); k++) {
            int g = x.outInfo(k, LinkScript.OUT_GROUP);
            if (g >= 0) {
                members[g]++;
                residents[g] += x.outInfo(k, LinkScript.OUT_RESIDENT);
            } else {
                Check.due(when + ": resident " + k, x.outInfo(k, LinkScript.OUT_RESIDENT), 0);
            }
        }
        for (int g = 0; g < members.length; g++) {
            Check.due(when + ": residents of group " + g, residents[g], members[g] > 0 ? 1 : 0);
        }
    }

    private static int[] blankRam() {
        int[] ram = new int[128];
        Arrays.fill(ram, 255);
        return ram;
    }

    private void ramIs(String when, int[] ram) {
        for (int i = 0; i < x.info(LinkScript.INFO_RAM_SIZE); i++) {
            Check.due(when + ": ramByte(" + (256 + i) + ")", x.ramByte(256 + i), ram[i]);
        }
    }

    // 255, zeroes in every span, then each section that is there at its run address.
    private void ramIsWrittenDirectly(String when) {
        int[] ram = blankRam();
        int outs = x.info(LinkScript.INFO_OUTS);
        for (int k = 0; k < outs; k++) {
            if (x.outInfo(k, LinkScript.OUT_GROUP) >= 0) {
                Arrays.fill(ram, x.outInfo(k, LinkScript.OUT_SPAN_START) - 256,
                        x.outInfo(k, LinkScript.OUT_SPAN_END) - 256, 0);
            }
        }
        for (int k = 0; k < outs; k++) {
            boolean alone = x.outInfo(k, LinkScript.OUT_GROUP) < 0;
            boolean there = alone || x.outInfo(k, LinkScript.OUT_RESIDENT) == 1;
            if (there && x.outInfo(k, LinkScript.OUT_REGION) == LinkScript.REGION_RAM) {
                writeDirectly(ram, k);
            }
        }
        ramIs(when, ram);
    }

    private void writeDirectly(int[] ram, int k) {
        boolean loaded = x.outInfo(k, LinkScript.OUT_LOADED) == 1;
        for (int i = 0; i < x.outInfo(k, LinkScript.OUT_SIZE); i++) {
            int image = loaded ? x.romByte(x.outInfo(k, LinkScript.OUT_LMA) + i) : 0;
            ram[x.outInfo(k, LinkScript.OUT_VMA) + i - 256] = image;
        }
    }
}
