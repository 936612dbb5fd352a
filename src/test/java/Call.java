import java.util.StringJoiner;

/** One call with its arguments, so that it can be made on many objects. */
record Call(String method, int... args) {
    static Call script(int op, int a, int b) {
        return new Call("script", op, a, b);
    }

    static Call beginSection(int kind, int id, int align, int bssSize) {
        return new Call("beginSection", kind, id, align, bssSize);
    }

    static Call addByte(int value) {
        return new Call("addByte", value);
    }

    static Call addReloc(int offset, int type, int target, int addend) {
        return new Call("addReloc", offset, type, target, addend);
    }

    static Call link(boolean gc) {
        return new Call("link", gc ? 1 : 0);
    }

    static Call startup() {
        return new Call("startup");
    }

    static Call loadOverlay(int k) {
        return new Call("loadOverlay", k);
    }

    boolean is(String name) {
        return method.equals(name);
    }

    int on(LinkScript x) {
        return switch (method) {
            case "script" -> x.script(args[0], args[1], args[2]);
            case "beginSection" -> x.beginSection(args[0], args[1], args[2], args[3]);
            case "addByte" -> x.addByte(args[0]);
            case "addReloc" -> x.addReloc(args[0], args[1], args[2], args[3]);
            case "link" -> x.link(args[0] == 1);
            case "startup" -> x.startup();
            default -> x.loadOverlay(args[0]);
        };
    }

    int on(Model y) {
        return switch (method) {
            case "script" -> y.script(args[0], args[1], args[2]);
            case "beginSection" -> y.beginSection(args[0], args[1], args[2], args[3]);
            case "addByte" -> y.addByte(args[0]);
            case "addReloc" -> y.addReloc(args[0], args[1], args[2], args[3]);
            case "link" -> y.link(args[0] == 1);
            case "startup" -> y.startup();
            default -> y.loadOverlay(args[0]);
        };
    }

    @Override
    public String toString() {
        StringJoiner all = new StringJoiner(", ", method + "(", ")");
        for (int arg : args) {
            all.add(method.equals("link") ? String.valueOf(arg == 1) : String.valueOf(arg));
        }
        return all.toString();
    }
}
