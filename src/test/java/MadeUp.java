import java.util.ArrayList;
import java.util.List;
import java.util.Random;

/**
 * Made-up calls, most of them such as an object takes. The seed decides them,
 * so every run of a test makes the same calls.
 */
final class MadeUp {
    private static final int[] ALIGNS = {1, 2, 4, 8, 16};

    private final Random dice;
    private boolean inSection;
    private boolean inGroup;

    MadeUp(int seed) {
        dice = new Random(seed);
    }

    int upTo(int bound) {
        return dice.nextInt(bound);
    }

    boolean chance(int percent) {
        return dice.nextInt(100) < percent;
    }

    int regionSize() {
        return chance(25) ? upTo(160) - 10 : 64 + upTo(70);
    }

    /** Keeps track of what is open; to be told of each call that was taken. */
    void taken(Call c) {
        if (c.is("script")) {
            int op = c.args()[0];
            inSection = op == LinkScript.OP_SECTION || inSection && op != LinkScript.OP_END;
            inGroup = op == LinkScript.OP_OVERLAY || inGroup && op != LinkScript.OP_OVERLAY_END;
        }
    }

    /** The calls that close what is open. */
    List<Call> closing() {
        List<Call> all = new ArrayList<>();
        if (inSection) {
            all.add(Call.script(LinkScript.OP_END, 0, 0));
        }
        if (inGroup) {
            all.add(Call.script(LinkScript.OP_OVERLAY_END, 0, 0));
        }
        return all;
    }

    /** A call or a few that feed the script or the sections. */
    List<Call> feeding() {
        int pick = upTo(100);
        if (pick < 40) {
            return List.of(statement());
        }
        if (pick < 55) {
            return List.of(section());
        }
        return pick < 85 ? bytes() : List.of(reloc());
    }

    private Call section() {
        int kind = 1 + upTo(chance(3) ? 4 : 3);
        int id = upTo(chance(3) ? 18 : 4);
        int align = chance(3) ? upTo(18) : ALIGNS[upTo(chance(20) ? 5 : 3)];
        int size = chance(5) ? upTo(140) - 5 : upTo(8);
        return Call.beginSection(kind, id, align, size);
    }

    private List<Call> bytes() {
        List<Call> all = new ArrayList<>();
        int count = 1 + upTo(chance(3) ? 60 : 4);
        for (int i = 0; i < count; i++) {
            all.add(Call.addByte(upTo(600) - 300));
        }
        return all;
    }

    private Call reloc() {
        int offset = upTo(5) - (chance(5) ? 1 : 0);
        int type = upTo(3) + (chance(3) ? 3 : 1);
        int target = upTo(chance(5) ? 17 : 4);
        return Call.addReloc(offset, type, target, upTo(514) - 257);
    }

    private Call statement() {
        if (chance(4)) {
            return Call.script(upTo(12) - 1, upTo(20) - 2, upTo(6) - 1);
        }
        return inSection ? statementInside() : statementOutside();
    }

    private Call statementInside() {
        int pick = upTo(100);
        if (pick < 45) {
            int op = upTo(3) == 0 ? LinkScript.OP_KEEP : LinkScript.OP_INPUT;
            return Call.script(op, upTo(5) - 1, upTo(4));
        }
        return pick < 85 ? Call.script(LinkScript.OP_END, 7, 7) : dot();
    }

    private Call statementOutside() {
        int pick = upTo(100);
        if (pick < 60) {
            int region = inGroup || chance(65) ? 1 : 0;
            return Call.script(LinkScript.OP_SECTION, region, region == 1 && chance(20) ? 0 : 1);
        }
        if (pick < 85) {
            return Call.script(inGroup ? LinkScript.OP_OVERLAY_END : LinkScript.OP_OVERLAY, 3, 3);
        }
        return dot();
    }

    private Call dot() {
        int region = upTo(2);
        int pick = upTo(10);
        if (pick < 2) {
            return Call.script(LinkScript.OP_DOT_SET, 256 * region + upTo(70), region);
        }
        if (pick < 7) {
            return Call.script(LinkScript.OP_DOT_ADD, upTo(5), region);
        }
        return Call.script(LinkScript.OP_DOT_ALIGN, ALIGNS[upTo(5)], region);
    }
}
