/** Promises 9, 11 to 13 and 20: make, classOf, instance, cast and label. */
public final class ObjectTest {
    private static final Checks CHECKS = new Checks();
    private static final int[] MADE = {9, 12, 16, 17, 18, 20, 21};
    private static final int[] NOT_MADE = {
        0, 1, 2, 3, 4, 5, 6, 7, 8, 10, 11, 13, 14, 15, 22, 23, 300, -1, -7, Integer.MIN_VALUE, Integer.MAX_VALUE};
    private static final int[] NO_OBJECTS = {-1, -7, -8, 1, 79, 80, Integer.MIN_VALUE, Integer.MAX_VALUE};
    private static final int[] VALUES = {0, 1, -1, -101, 5, 1000, Integer.MAX_VALUE, Integer.MIN_VALUE};

    public static void main(String[] args) {
        whatCanBeMade();
        colorsAreOneObjectEach();
        eightyObjects();
        colorsAmongEightyObjects();
        labels();
        instancesAndCasts();
        instancesOfArrayTypes();
        wrongNumbers();
        CHECKS.end();
    }

    private static void whatCanBeMade() {
        ClassObjectMirror x = new ClassObjectMirror();
        x.arrayOf(16);
        for (int type : NOT_MADE) {
            CHECKS.due("make " + type, x.make(type, 1), -1);
        }
        CHECKS.due("objects after refused calls", x.count(1), 0);
        for (int i = 0; i < MADE.length; i++) {
            CHECKS.due("make " + MADE[i], x.make(MADE[i], 3), i);
            CHECKS.due("class of it", x.classOf(i), MADE[i]);
        }
        CHECKS.due("one more of a class", x.make(9, 3), MADE.length);
        CHECKS.due("objects", x.count(1), MADE.length + 1);
    }

    private static void colorsAreOneObjectEach() {
        ClassObjectMirror x = new ClassObjectMirror();
        CHECKS.due("make(19, 5)", x.make(19, 5), 0);
        CHECKS.due("make(9, 0)", x.make(9, 0), 1);
        CHECKS.due("make(19, 0)", x.make(19, 0), 2);
        CHECKS.due("make(19, -2)", x.make(19, -2), 3);
        CHECKS.due("make(19, 2)", x.make(19, 2), 0);
        CHECKS.due("make(19, -1)", x.make(19, -1), 0);
        CHECKS.due("make(19, -3)", x.make(19, -3), 2);
        CHECKS.due("make(19, 1)", x.make(19, 1), 3);
        // 2^31 - 1 is 1 mod 3, and -2^31 is 1 mod 3.
        CHECKS.due("make(19, the greatest)", x.make(19, Integer.MAX_VALUE), 3);
        CHECKS.due("make(19, the least)", x.make(19, Integer.MIN_VALUE), 3);
        CHECKS.due("label of which 2", x.label(0), 402);
        CHECKS.due("label of which 0", x.label(2), 400);
        CHECKS.due("label of which 1", x.label(3), 401);
        CHECKS.due("class of one", x.classOf(3), 19);
        CHECKS.due("objects", x.count(1), 4);
    }

    private static void eightyObjects() {
        ClassObjectMirror x = new ClassObjectMirror();
        for (int i = 0; i < 80; i++) {
            CHECKS.due("make", x.make(MADE[i % MADE.length], i), i);
        }
        for (int type : MADE) {
            CHECKS.due("an 81st object of " + type, x.make(type, 0), -8);
        }
        CHECKS.due("an 81st object, a color", x.make(19, 0), -8);
        CHECKS.due("the same color again", x.make(19, 0), -8);
        for (int type : NOT_MADE) {
            CHECKS.due("REFUSED before FULL, " + type, x.make(type, 0), -1);
        }
        CHECKS.due("objects", x.count(1), 80);
        CHECKS.due("class of the last", x.classOf(79), MADE[79 % MADE.length]);
        CHECKS.due("class of none", x.classOf(80), -1);
    }

    private static void colorsAmongEightyObjects() {
        ClassObjectMirror x = new ClassObjectMirror();
        CHECKS.due("a color", x.make(19, 1), 0);
        for (int i = 1; i < 80; i++) {
            x.make(21, 0);
        }
        CHECKS.due("the same color", x.make(19, 4), 0);
        CHECKS.due("another color", x.make(19, 2), -8);
    }

    private static void labels() {
        for (int value : VALUES) {
            ClassObjectMirror x = new ClassObjectMirror();
            for (int type : MADE) {
                x.make(type, value);
            }
            int[] due = {-1, -1, 100 + value, 100 + value, 200 + value, 300 + value, -1};
            for (int i = 0; i < MADE.length; i++) {
                CHECKS.due("label of a " + MADE[i] + " with " + value, x.label(i), due[i]);
            }
            CHECKS.due("label of no object", x.label(MADE.length), -1);
        }
        ClassObjectMirror x = new ClassObjectMirror();
        x.makeArray(16, 2);
        x.makeArray(4, 2);
        CHECKS.due("label of an array", x.label(0), -1);
        CHECKS.due("label of an array of a base", x.label(1), -1);
    }

    private static void instancesAndCasts() {
        ClassObjectMirror x = new ClassObjectMirror();
        int[] classes = {9, 12, 16, 17, 18, 20, 21, 19};
        int[][] types = {
            {9}, {9, 11, 12}, {9, 13, 14, 15, 16}, {9, 14, 15, 17}, {9, 10, 14, 15, 17, 18}, {9, 14, 20}, {9, 21},
            {9, 11, 14, 19}};
        for (int object = 0; object < classes.length; object++) {
            x.make(classes[object], 0);
            for (int type = 0; type < 22; type++) {
                boolean is = false;
                for (int each : types[object]) {
                    is |= each == type;
                }
                String told = " of a " + classes[object] + " as " + type;
                CHECKS.due("instance" + told, x.instance(type, object), is ? 1 : 0);
                CHECKS.due("cast" + told, x.cast(type, object), is ? object : -4);
            }
        }
    }

    private static void instancesOfArrayTypes() {
        ClassObjectMirror x = new ClassObjectMirror();
        int shapes = x.arrayOf(13);
        int objects = x.arrayOf(9);
        x.makeArray(16, 1);
        x.makeArray(4, 1);
        x.makeArray(x.classOf(1), 1);
        x.make(16, 0);
        int[] types = {0, 4, 8, 9, 10, 11, 12, 13, 16, shapes, objects, x.classOf(0), x.classOf(1), x.classOf(2)};
        int[][] due = {
            {0, 0, 0, 1, 1, 1, 0, 0, 0, 1, 1, 1, 0, 0},
            {0, 0, 0, 1, 1, 1, 0, 0, 0, 0, 0, 0, 1, 0},
            {0, 0, 0, 1, 1, 1, 0, 0, 0, 0, 1, 0, 0, 1},
            {0, 0, 0, 1, 0, 0, 0, 1, 1, 0, 0, 0, 0, 0}};
        for (int object = 0; object < due.length; object++) {
            for (int i = 0; i < types.length; i++) {
                String told = " of object " + object + " as " + types[i];
                CHECKS.due("instance" + told, x.instance(types[i], object), due[object][i]);
                CHECKS.due("cast" + told, x.cast(types[i], object), due[object][i] == 1 ? object : -4);
            }
        }
    }

    private static void wrongNumbers() {
        ClassObjectMirror x = new ClassObjectMirror();
        x.make(16, 0);
        for (int object : NO_OBJECTS) {
            CHECKS.due("classOf " + object, x.classOf(object), -1);
            CHECKS.due("label " + object, x.label(object), -1);
            CHECKS.due("instance of object " + object, x.instance(9, object), -1);
            CHECKS.due("cast of object " + object, x.cast(9, object), -1);
            CHECKS.due("cast of object " + object + " to a base", x.cast(4, object), -1);
            CHECKS.due("cast of object " + object + " to void", x.cast(8, object), -1);
        }
        for (int type : new int[] {-1, -7, 22, 300, Integer.MIN_VALUE, Integer.MAX_VALUE}) {
            CHECKS.due("instance of type " + type, x.instance(type, 0), -1);
            CHECKS.due("cast to type " + type, x.cast(type, 0), -1);
        }
    }
}
