import java.lang.reflect.Constructor;
import java.lang.reflect.Field;
import java.lang.reflect.Member;
import java.lang.reflect.Method;
import java.lang.reflect.Modifier;
import java.util.Set;
import java.util.TreeSet;

/** The public face of the document, and the limits of LANGUAGE.md that reflection can see. */
public final class FaceTest {
    private static final Set<String> FACE = Set.of(
            "script(int,int,int)", "beginSection(int,int,int,int)", "addByte(int)",
            "addReloc(int,int,int,int)", "link(boolean)", "startup()", "loadOverlay(int)",
            "romByte(int)", "ramByte(int)", "runByte(int)", "outInfo(int,int)", "inInfo(int,int)",
            "info(int)");
    // As the document lists them.
    private static final String CONSTANTS = """
            OK 0, ERR_STATE -1, ERR_ARG -2, ERR_CONTEXT -3, ERR_FULL -4, ERR_SCRIPT -5, ERR_UNDEF -6,
            ERR_NOLOAD -7, ERR_BACKWARD -8, ERR_OVERFLOW -9,
            KIND_TEXT 1, KIND_DATA 2, KIND_BSS 3,
            REGION_ROM 0, REGION_RAM 1, ROM_BASE 0, RAM_BASE 256,
            R_ABS16 1, R_LMA16 2, R_PC16 3,
            OP_SECTION 1, OP_END 2, OP_INPUT 3, OP_KEEP 4, OP_DOT_SET 5, OP_DOT_ADD 6, OP_DOT_ALIGN 7,
            OP_OVERLAY 8, OP_OVERLAY_END 9,
            MAX_STMTS 32, MAX_OUT 8, MAX_GROUPS 4, MAX_IN 16, MAX_BYTES 256, MAX_RELOCS 32,
            PHASE_FEED 0, PHASE_LINKED 1, PHASE_STARTED 2,
            OUT_VMA 0, OUT_LMA 1, OUT_SIZE 2, OUT_REGION 3, OUT_LOADED 4, OUT_GROUP 5, OUT_RESIDENT 6,
            OUT_ALIGN 7, OUT_SPAN_START 8, OUT_SPAN_END 9,
            IN_KIND 0, IN_ID 1, IN_ALIGN 2, IN_SIZE 3, IN_STMT 4, IN_LIVE 5, IN_OUT 6, IN_VMA 7, IN_LMA 8,
            INFO_PHASE 0, INFO_STMTS 1, INFO_OUTS 2, INFO_INS 3, INFO_BYTES 4, INFO_RELOCS 5, INFO_GROUPS 6,
            INFO_ROM_SIZE 7, INFO_RAM_SIZE 8, INFO_ROM_COUNTER 9, INFO_RAM_COUNTER 10
            """;

    public static void main(String[] args) throws IllegalAccessException {
        classIsAlone();
        constructorIsTheOne();
        methodsAreTheFace();
        constantsAreTheFace();
        fieldsKeepToTheLanguage();
        Check.finish();
    }

    private static void classIsAlone() {
        Class<?> c = LinkScript.class;
        Check.due("public and final", c.getModifiers(), Modifier.PUBLIC | Modifier.FINAL);
        Check.due("nested classes", c.getDeclaredClasses().length, 0);
        Check.due("interfaces", c.getInterfaces().length, 0);
    }

    private static void constructorIsTheOne() {
        Constructor<?>[] all = LinkScript.class.getDeclaredConstructors();
        Check.due("constructors", all.length, 1);
        Check.due(all[0].toString(), all[0].toString().equals("public LinkScript(int,int)") ? 1 : 0, 1);
    }

    private static void hidden(Member m) {
        Check.due("private " + m, Modifier.isPrivate(m.getModifiers()) ? 1 : 0, 1);
    }

    private static void methodsAreTheFace() {
        Set<String> seen = new TreeSet<>();
        Set<String> publicNames = new TreeSet<>();
        for (String call : FACE) {
            publicNames.add(call.substring(0, call.indexOf('(')));
        }
        for (Method m : LinkScript.class.getDeclaredMethods()) {
            Check.due("parameters of " + m, m.getParameterCount() <= 7 ? 1 : 0, 1);
            if (Modifier.isPublic(m.getModifiers())) {
                Check.due("int from " + m, m.getReturnType() == int.class ? 1 : 0, 1);
                String all = m.toString();
                seen.add(all.substring(all.indexOf("LinkScript.") + "LinkScript.".length()));
            } else {
                hidden(m);
                Check.due("own name of " + m, publicNames.contains(m.getName()) ? 1 : 0, 0);
            }
        }
        Check.due("the face " + seen, seen.equals(FACE) ? 1 : 0, 1);
    }

    private static void constantsAreTheFace() throws IllegalAccessException {
        Set<String> due = new TreeSet<>();
        for (String constant : CONSTANTS.strip().split(",\\s+")) {
            due.add("public static final int " + constant);
        }
        Set<String> seen = new TreeSet<>();
        for (Field f : LinkScript.class.getFields()) {
            seen.add(Modifier.toString(f.getModifiers()) + " " + f.getType() + " " + f.getName() + " "
                    + (Modifier.isStatic(f.getModifiers()) ? f.get(null) : ""));
        }
        Check.due("the constants, 68 in all", due.size(), 68);
        Check.due("the constants " + seen, seen.equals(due) ? 1 : 0, 1);
    }

    private static void fieldsKeepToTheLanguage() {
        int own = 0;
        for (Field f : LinkScript.class.getDeclaredFields()) {
            int mods = f.getModifiers();
            if (Modifier.isStatic(mods)) {
                boolean constant = Modifier.isFinal(mods) && f.getType() == int.class;
                Check.due("constant " + f, constant ? 1 : 0, 1);
            } else {
                own++;
                Check.due("array is final: " + f, f.getType().isArray() && !Modifier.isFinal(mods) ? 1 : 0, 0);
            }
            if (!Modifier.isPublic(mods)) {
                hidden(f);
            }
        }
        Check.due("some forty fields: " + own, own <= 42 ? 1 : 0, 1);
    }
}
