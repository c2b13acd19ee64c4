/** Promises 6 to 8: marks, kinds and text. */
public final class NameTest {
    private static final Checks CHECKS = new Checks();
    private static final String[] NAMES = {
        "boolean", "byte", "char", "short", "int", "long", "float", "double", "void",
        "java.lang.Object", "java.lang.Cloneable", "java.io.Serializable", "java.lang.String",
        "ClassObjectMirror$Shape", "ClassObjectMirror$Named", "ClassObjectMirror$Base", "ClassObjectMirror$Circle",
        "ClassObjectMirror$Square", "ClassObjectMirror$Tile", "ClassObjectMirror$Color", "ClassObjectMirror$Point",
        "ClassObjectMirror$Holder"};
    private static final String[] SIMPLE_NAMES = {
        "boolean", "byte", "char", "short", "int", "long", "float", "double", "void",
        "Object", "Cloneable", "Serializable", "String",
        "Shape", "Named", "Base", "Circle", "Square", "Tile", "Color", "Point", "Holder"};
    private static final String CODES = "ZBCSIJFDV";
    private static final int[] MARKS = {
        1041, 1041, 1041, 1041, 1041, 1041, 1041, 1041, 1041, 1, 1537, 1537, 17,
        1546, 1544, 1034, 26, 10, 24, 26, 26, 8};
    private static final int[] ARRAY_MARKS = {
        17, 17, 17, 17, 17, 17, 17, 17, -1, 17, 17, 17, 17,
        18, 16, 18, 18, 18, 16, 18, 18, 16};
    private static final int[] KINDS = {
        1, 1, 1, 1, 1, 1, 1, 1, 1, 0, 2, 2, 0, 34, 34, 32, 32, 32, 32, 40, 48, 32};

    public static void main(String[] args) {
        for (int type = 0; type < 22; type++) {
            ofFixedType(type);
            if (type != 8) {
                ofArraysOf(type);
            }
        }
        ofManyDimensions();
        wrongNumbers();
        CHECKS.end();
    }

    private static void ofFixedType(int type) {
        ClassObjectMirror x = new ClassObjectMirror();
        CHECKS.due("marks " + type, x.marks(type), MARKS[type]);
        CHECKS.due("kinds " + type, x.kinds(type), KINDS[type]);
        CHECKS.due("name of " + type, read(x, type, 0), NAMES[type]);
        CHECKS.due("simple name of " + type, read(x, type, 1), SIMPLE_NAMES[type]);
        CHECKS.due("descriptor of " + type, read(x, type, 2), descriptor(type));
    }

    private static void ofArraysOf(int type) {
        ClassObjectMirror x = new ClassObjectMirror();
        int array = type;
        String brackets = "";
        String pairs = "";
        String named = type < 8 ? CODES.substring(type, type + 1) : "L" + NAMES[type] + ";";
        for (int depth = 1; depth <= 3; depth++) {
            array = x.arrayOf(array);
            brackets += "[";
            pairs += "[]";
            String told = " of " + type + pairs;
            CHECKS.due("marks" + told, x.marks(array), ARRAY_MARKS[type]);
            CHECKS.due("kinds" + told, x.kinds(array), 4);
            CHECKS.due("name" + told, read(x, array, 0), brackets + named);
            CHECKS.due("simple name" + told, read(x, array, 1), SIMPLE_NAMES[type] + pairs);
            CHECKS.due("descriptor" + told, read(x, array, 2), brackets + descriptor(type));
        }
    }

    private static String descriptor(int type) {
        return type < 9 ? CODES.substring(type, type + 1) : "L" + NAMES[type].replace('.', '/') + ";";
    }

    /** Reads a text until it ends, and looks whether it stays ended. */
    private static String read(ClassObjectMirror x, int type, int which) {
        StringBuilder text = new StringBuilder();
        int c = x.text(type, which, 0);
        while (c != -1 && text.length() < 1000) {
            text.append((char) c);
            c = x.text(type, which, text.length());
        }
        for (int index : new int[] {-1, Integer.MIN_VALUE, text.length() + 1, text.length() + 2, Integer.MAX_VALUE}) {
            CHECKS.due("text " + which + " of " + type + " at " + index, x.text(type, which, index), -1);
        }
        return text.toString();
    }

    private static void ofManyDimensions() {
        ClassObjectMirror x = new ClassObjectMirror();
        int array = 12;
        for (int depth = 0; depth < 255; depth++) {
            array = x.arrayOf(array);
        }
        CHECKS.due("name, last bracket", x.text(array, 0, 254), '[');
        CHECKS.due("name, behind the brackets", x.text(array, 0, 255), 'L');
        CHECKS.due("name, a dot", x.text(array, 0, 260), '.');
        CHECKS.due("name, the end", x.text(array, 0, 272), ';');
        CHECKS.due("name, behind the end", x.text(array, 0, 273), -1);
        CHECKS.due("descriptor, for a dot", x.text(array, 2, 260), '/');
        CHECKS.due("descriptor, the end", x.text(array, 2, 272), ';');
        CHECKS.due("simple name, first", x.text(array, 1, 0), 'S');
        CHECKS.due("simple name, first bracket", x.text(array, 1, 6), '[');
        CHECKS.due("simple name, last bracket", x.text(array, 1, 515), ']');
        CHECKS.due("simple name, behind the end", x.text(array, 1, 516), -1);
        CHECKS.due("marks", x.marks(array), 17);
        CHECKS.due("kinds", x.kinds(array), 4);
    }

    private static void wrongNumbers() {
        ClassObjectMirror x = new ClassObjectMirror();
        for (int type : new int[] {-1, -7, 22, 300, Integer.MIN_VALUE, Integer.MAX_VALUE}) {
            CHECKS.due("marks " + type, x.marks(type), -1);
            CHECKS.due("kinds " + type, x.kinds(type), -1);
            for (int which = 0; which < 3; which++) {
                CHECKS.due("text of type " + type, x.text(type, which, 0), -1);
            }
        }
        for (int which : new int[] {-1, 3, 4, Integer.MIN_VALUE, Integer.MAX_VALUE}) {
            CHECKS.due("text " + which, x.text(9, which, 0), -1);
        }
    }
}
