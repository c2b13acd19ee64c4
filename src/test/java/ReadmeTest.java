/** The example in README.md: each of its calls gives the answer that is told there. */
public final class ReadmeTest implements Numbers {
    public static void main(String[] args) {
        Checks checks = new Checks();
        ClassObjectMirror mirror = new ClassObjectMirror();
        int circle = mirror.make(16, 7);
        checks.due("make(16, 7)", circle, 0);
        int shapes = mirror.makeArray(13, 2);
        checks.due("makeArray(13, 2)", shapes, 1);
        checks.due("store(shapes, 0, circle)", mirror.store(shapes, 0, circle), NONE);
        checks.due("load(shapes, 0)", mirror.load(shapes, 0), circle);
        checks.due("store(shapes, 1, shapes)", mirror.store(shapes, 1, shapes), BAD_STORE);
        checks.due("label(circle)", mirror.label(circle), 107);
        int type = mirror.classOf(shapes);
        checks.due("classOf(shapes)", type, 22);
        checks.due("supertype(9, type)", mirror.supertype(9, type), 1);
        checks.due("text(type, 0, 0)", mirror.text(type, 0, 0), '[');
        checks.due("arrayOf(8)", mirror.arrayOf(8), NO_ARRAY);
        checks.end();
    }
}
