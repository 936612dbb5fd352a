import java.util.ArrayList;
import java.util.List;
import java.util.function.Predicate;

/** All that the getters of an object answer, inside their bounds and just outside. */
final class State {
    private static final int LAST_ADDR = 386;
    private static final List<String> NAMES = names();

    private final int[] answers = new int[NAMES.size()];

    private State(LinkScript x) {
        int n = 0;
        for (int addr = -2; addr <= LAST_ADDR; addr++) {
            answers[n++] = x.romByte(addr);
            answers[n++] = x.ramByte(addr);
            answers[n++] = x.runByte(addr);
        }
        for (int k = -1; k <= LinkScript.MAX_OUT; k++) {
            for (int f = -1; f <= LinkScript.OUT_SPAN_END + 1; f++) {
                answers[n++] = x.outInfo(k, f);
            }
        }
        for (int s = -1; s <= LinkScript.MAX_IN; s++) {
            for (int f = -1; f <= LinkScript.IN_LMA + 1; f++) {
                answers[n++] = x.inInfo(s, f);
            }
        }
        for (int f = -1; f <= LinkScript.INFO_RAM_COUNTER + 1; f++) {
            answers[n++] = x.info(f);
        }
    }

    private static List<String> names() {
        List<String> all = new ArrayList<>();
        for (int addr = -2; addr <= LAST_ADDR; addr++) {
            all.add("romByte(" + addr + ")");
            all.add("ramByte(" + addr + ")");
            all.add("runByte(" + addr + ")");
        }
        for (int k = -1; k <= LinkScript.MAX_OUT; k++) {
            for (int f = -1; f <= LinkScript.OUT_SPAN_END + 1; f++) {
                all.add("outInfo(" + k + ", " + f + ")");
            }
        }
        for (int s = -1; s <= LinkScript.MAX_IN; s++) {
            for (int f = -1; f <= LinkScript.IN_LMA + 1; f++) {
                all.add("inInfo(" + s + ", " + f + ")");
            }
        }
        for (int f = -1; f <= LinkScript.INFO_RAM_COUNTER + 1; f++) {
            all.add("info(" + f + ")");
        }
        return all;
    }

    static State of(LinkScript x) {
        return new State(x);
    }

    /** The object still answers as it did when this state was taken. */
    void isStill(String when, LinkScript x) {
        isStillBut(when, x, getter -> false);
    }

    /** As isStill, but the getters named here, such as "info(3)", may answer anew. */
    void isStillBut(String when, LinkScript x, Predicate<String> free) {
        int[] now = new State(x).answers;
        for (int i = 0; i < answers.length; i++) {
            if (now[i] != answers[i] && !free.test(NAMES.get(i))) {
                Check.due(when + ": " + NAMES.get(i), now[i], answers[i]);
            }
        }
    }
}
