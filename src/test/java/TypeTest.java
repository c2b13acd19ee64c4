/** Promises 1 to 5 and 21: a new object, arrayOf, component, dimensions, supertype and count. */
public final class TypeTest {
    private static final Checks CHECKS = new Checks();
    private static final int[] NO_TYPES = {-1, -7, -8, 22, 23, 300, Integer.MIN_VALUE, Integer.MAX_VALUE};

    /** For each of the types 0 .. 21 all of its supertypes, as the terms tell them. */
    private static final int[][] SUPERTYPES = {
        {0}, {1}, {2}, {3}, {4}, {5}, {6}, {7}, {8}, {9},
        {9, 10}, {9, 11}, {9, 11, 12}, {9, 13}, {9, 14}, {9, 14, 15}, {9, 13, 14, 15, 16}, {9, 14, 15, 17},
        {9, 10, 14, 15, 17, 18}, {9, 11, 14, 19}, {9, 14, 20}, {9, 21}};

    public static void main(String[] args) {
        aNewObject();
        objectsShareNothing();
        arrayTypesGetOneNumberEach();
        aHundredAndMoreDimensions();
        threeHundredTypes();
        componentsAndDimensions();
        supertypesOfFixedTypes();
        supertypesOfArrays();
        wrongNumbers();
        counts();
        CHECKS.end();
    }

    private static void aNewObject() {
        ClassObjectMirror x = new ClassObjectMirror();
        CHECKS.due("new: count(0)", x.count(0), 22);
        CHECKS.due("new: count(1)", x.count(1), 0);
        CHECKS.due("new: classOf(0)", x.classOf(0), -1);
        for (int type = 0; type < 22; type++) {
            CHECKS.due("new: component " + type, x.component(type), -7);
            CHECKS.due("new: dimensions " + type, x.dimensions(type), 0);
        }
        CHECKS.due("new: marks(22)", x.marks(22), -1);
    }

    private static void objectsShareNothing() {
        ClassObjectMirror x = new ClassObjectMirror();
        x.makeArray(4, 1);
        x.put(0, 0, 77);
        x.make(19, 0);
        ClassObjectMirror y = new ClassObjectMirror();
        CHECKS.due("second: count(0)", y.count(0), 22);
        CHECKS.due("second: count(1)", y.count(1), 0);
        CHECKS.due("second: make(19, 0)", y.make(19, 0), 0);
        CHECKS.due("second: arrayOf(9)", y.arrayOf(9), 22);
        CHECKS.due("first: component(22)", x.component(22), 4);
        CHECKS.due("first: get(0, 0)", x.get(0, 0), 77);
    }

    private static void arrayTypesGetOneNumberEach() {
        ClassObjectMirror x = new ClassObjectMirror();
        int next = 22;
        for (int type = 0; type < 22; type++) {
            CHECKS.due("arrayOf " + type, x.arrayOf(type), type == 8 ? -2 : next++);
        }
        for (int type = 21; type >= 0; type--) {
            int due = type < 8 ? 22 + type : type == 8 ? -2 : 21 + type;
            CHECKS.due("arrayOf again " + type, x.arrayOf(type), due);
        }
        CHECKS.due("count(0)", x.count(0), 43);
        CHECKS.due("makeArray finds the type", x.makeArray(0, 0), 0);
        CHECKS.due("class of what it made", x.classOf(0), 22);
        CHECKS.due("makeArray numbers a type", x.makeArray(22, 0), 1);
        CHECKS.due("arrayOf finds it", x.arrayOf(22), 43);
    }

    private static void aHundredAndMoreDimensions() {
        ClassObjectMirror x = new ClassObjectMirror();
        int type = 21;
        for (int depth = 1; depth <= 255; depth++) {
            int above = x.arrayOf(type);
            CHECKS.due("arrayOf at depth " + depth, above, 21 + depth);
            type = above;
        }
        CHECKS.due("dimensions at the end", x.dimensions(type), 255);
        CHECKS.due("component at the end", x.component(type), type - 1);
        CHECKS.due("a 256th dimension", x.arrayOf(type), -2);
        CHECKS.due("a 256th dimension, of an object", x.makeArray(type, 1), -2);
        CHECKS.due("a 256th dimension before a negative length", x.makeArray(type, -1), -2);
        CHECKS.due("count(0)", x.count(0), 277);
        CHECKS.due("an array of the last but one", x.makeArray(type - 1, 1), 0);
    }

    private static void threeHundredTypes() {
        ClassObjectMirror x = new ClassObjectMirror();
        int type = 4;
        for (int i = 0; i < 255; i++) {
            type = x.arrayOf(type);
        }
        int other = 9;
        for (int i = 0; i < 23; i++) {
            other = x.arrayOf(other);
        }
        CHECKS.due("the 300th type", other, 299);
        CHECKS.due("count(0) at 300", x.count(0), 300);
        CHECKS.due("a 301st type", x.arrayOf(other), -8);
        CHECKS.due("a 301st type, of a base", x.arrayOf(5), -8);
        CHECKS.due("a 301st type, of an object", x.makeArray(5, 0), -8);
        CHECKS.due("no object of it", x.count(1), 0);
        CHECKS.due("void before FULL", x.arrayOf(8), -2);
        CHECKS.due("255 dimensions before FULL", x.arrayOf(type), -2);
        CHECKS.due("known types are still found", x.arrayOf(4), 22);
        CHECKS.due("known types still have objects", x.makeArray(4, 1), 0);
        CHECKS.due("the last type is one", x.dimensions(299), 23);
        CHECKS.due("300 is none", x.dimensions(300), -1);
        CHECKS.due("count(0) is as before", x.count(0), 300);
    }

    private static void componentsAndDimensions() {
        ClassObjectMirror x = new ClassObjectMirror();
        x.arrayOf(16);
        x.arrayOf(4);
        x.arrayOf(22);
        x.arrayOf(24);
        int[] components = {16, 4, 22, 24};
        int[] dimensions = {1, 1, 2, 3};
        for (int i = 0; i < 4; i++) {
            CHECKS.due("component " + (22 + i), x.component(22 + i), components[i]);
            CHECKS.due("dimensions " + (22 + i), x.dimensions(22 + i), dimensions[i]);
        }
    }

    private static void supertypesOfFixedTypes() {
        ClassObjectMirror x = new ClassObjectMirror();
        for (int s = 0; s < 22; s++) {
            for (int t = 0; t < 22; t++) {
                CHECKS.due("supertype " + t + " of " + s, x.supertype(t, s), holds(SUPERTYPES[s], t) ? 1 : 0);
            }
        }
    }

    private static boolean holds(int[] row, int number) {
        for (int each : row) {
            if (each == number) {
                return true;
            }
        }
        return false;
    }

    private static void supertypesOfArrays() {
        for (int s = 0; s < 22; s++) {
            if (s != 8) {
                supertypesOfArraysOf(s);
            }
        }
    }

    private static void supertypesOfArraysOf(int s) {
        ClassObjectMirror x = new ClassObjectMirror();
        int[] one = new int[22];
        int[] two = new int[22];
        for (int type = 0; type < 22; type++) {
            one[type] = x.arrayOf(type);
            two[type] = x.arrayOf(one[type]);
        }
        for (int t = 0; t < 22; t++) {
            int same = holds(SUPERTYPES[s], t) ? 1 : 0;
            int above = t == 9 || t == 10 || t == 11 ? 1 : 0;
            String pair = " of " + t + " and " + s;
            CHECKS.due("none and one" + pair, x.supertype(t, one[s]), above);
            CHECKS.due("none and two" + pair, x.supertype(t, two[s]), above);
            if (t == 8) {
                continue;
            }
            CHECKS.due("one dimension each" + pair, x.supertype(one[t], one[s]), same);
            CHECKS.due("two dimensions each" + pair, x.supertype(two[t], two[s]), same);
            CHECKS.due("one and two" + pair, x.supertype(one[t], two[s]), above);
            CHECKS.due("one and none" + pair, x.supertype(one[t], s), 0);
            CHECKS.due("two and one" + pair, x.supertype(two[t], one[s]), 0);
            CHECKS.due("two and none" + pair, x.supertype(two[t], s), 0);
        }
        CHECKS.due("an array and void", x.supertype(one[s], 8), 0);
    }

    private static void wrongNumbers() {
        ClassObjectMirror x = new ClassObjectMirror();
        for (int type : NO_TYPES) {
            CHECKS.due("arrayOf " + type, x.arrayOf(type), -1);
            CHECKS.due("component " + type, x.component(type), -1);
            CHECKS.due("dimensions " + type, x.dimensions(type), -1);
            CHECKS.due("supertype with t " + type, x.supertype(type, 9), -1);
            CHECKS.due("supertype with s " + type, x.supertype(9, type), -1);
            CHECKS.due("supertype with both " + type, x.supertype(type, type), -1);
        }
        CHECKS.due("count(0) after them", x.count(0), 22);
    }

    private static void counts() {
        ClassObjectMirror x = new ClassObjectMirror();
        x.makeArray(3, 2);
        CHECKS.due("count(0) after one array", x.count(0), 23);
        CHECKS.due("count(1) after one array", x.count(1), 1);
        x.make(9, 0);
        x.make(19, 4);
        x.make(19, 1);
        x.copy(0);
        CHECKS.due("count(0) after objects", x.count(0), 23);
        CHECKS.due("count(1) after objects", x.count(1), 4);
        for (int what : new int[] {-1, 2, 3, Integer.MIN_VALUE, Integer.MAX_VALUE}) {
            CHECKS.due("count " + what, x.count(what), -1);
        }
    }
}
