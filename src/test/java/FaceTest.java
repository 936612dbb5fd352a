import java.lang.reflect.Constructor;
import java.lang.reflect.Field;
import java.lang.reflect.Member;
import java.lang.reflect.Method;
import java.lang.reflect.Modifier;
import java.util.Set;
import java.util.TreeSet;

/** The public face of the document, and the limits of LANGUAGE.md that reflection can see. */
public final class FaceTest {
    private static final Set<String> FACE = Set.of(
            "script(int,int,int)", "beginSection(int,int,int,int)", "addByte(int)",
            "addReloc(int,int,int,int)", "link(boolean)", "startup()", "loadOverlay(int)",
            "romByte(int)", "ramByte(int)", "runByte(int)", "outInfo(int,int)", "inInfo(int,int)",
            "info(int)");

    public static void main(String[] args) {
        classIsAlone();
        constructorIsTheOne();
        methodsAreTheFace();
        fieldsKeepToTheLanguage();
        Check.finish();
    }

    private static void classIsAlone() {
        Class<?> c = LinkScript.class;
        Check.due("public and final", c.getModifiers(), Modifier.PUBLIC | Modifier.FINAL);
        Check.due("nested classes", c.getDeclaredClasses().length, 0);
        Check.due("interfaces", c.getInterfaces().length, 0);
    }

    private static void constructorIsTheOne() {
        Constructor<?>[] all = LinkScript.class.getDeclaredConstructors();
        Check.due("constructors", all.length, 1);
        Check.due(all[0].toString(), all[0].toString().equals("public LinkScript(int,int)") ? 1 : 0, 1);
    }

    private static void hidden(Member m) {
        Check.due("private " + m, Modifier.isPrivate(m.getModifiers()) ? 1 : 0, 1);
    }

    private static void methodsAreTheFace() {
        Set<String> seen = new TreeSet<>();
        Set<String> publicNames = new TreeSet<>();
        for (String call : FACE) {
            publicNames.add(call.substring(0, call.indexOf('(')));
        }
        for (Method m : LinkScript.class.getDeclaredMethods()) {
            Check.due("parameters of " + m, m.getParameterCount() <= 7 ? 1 : 0, 1);
            if (Modifier.isPublic(m.getModifiers())) {
                Check.due("int from " + m, m.getReturnType() == int.class ? 1 : 0, 1);
                String all = m.toString();
                seen.add(all.substring(all.indexOf("LinkScript.") + "LinkScript.".length()));
            } else {
                hidden(m);
                Check.due("own name of " + m, publicNames.contains(m.getName()) ? 1 : 0, 0);
            }
        }
        Check.due("the face " + seen, seen.equals(FACE) ? 1 : 0, 1);
    }

    private static void fieldsKeepToTheLanguage() {
        int publicConstants = 0;
        int own = 0;
        for (Field f : LinkScript.class.getDeclaredFields()) {
            int mods = f.getModifiers();
            boolean constant = Modifier.isStatic(mods) && Modifier.isFinal(mods);
            if (Modifier.isStatic(mods)) {
                Check.due("constant " + f, constant && f.getType() == int.class ? 1 : 0, 1);
            } else {
                own++;
                Check.due("array is final: " + f, f.getType().isArray() && !Modifier.isFinal(mods) ? 1 : 0, 0);
            }
            if (Modifier.isPublic(mods) && constant) {
                publicConstants++;
            } else {
                hidden(f);
            }
        }
        // Their names and values are in ../shared/tests; this finds one too many.
        Check.due("public constants", publicConstants, 68);
        Check.due("some forty fields: " + own, own <= 42 ? 1 : 0, 1);
    }
}
