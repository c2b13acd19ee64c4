/** Promises 10 and 14 to 19: makeArray, store, load, put, get, length and copy. */
public final class ArrayTest {
    private static final Checks CHECKS = new Checks();
    private static final long ABSENT = 10000000000L;
    private static final int[] NO_OBJECTS = {-1, -7, -8, 60, 80, Integer.MIN_VALUE, Integer.MAX_VALUE};
    private static final int[] VALUES = {
        0, 1, -1, 2, 127, 128, -128, -129, 255, 256, 32767, 32768, -32768, -32769, 65535, 65536,
        16777215, 16777216, 16777217, 16777219, -16777217, 33554435, 2147483583, 2147483584, 2147483585,
        Integer.MAX_VALUE, Integer.MIN_VALUE};

    public static void main(String[] args) {
        arraysOfEveryType();
        lengthsThatAreRefused();
        orderOfRefusals();
        fullObjects();
        valuesAsBasesHaveThem();
        elementsStandApart();
        storedObjects();
        storesThatAreBad();
        arraysInArrays();
        wrongKindsOfObjects();
        wrongNumbers();
        copiesOfBases();
        copiesOfObjects();
        CHECKS.end();
    }

    private static void arraysOfEveryType() {
        ClassObjectMirror x = new ClassObjectMirror();
        int made = 0;
        for (int type = 0; type < 22; type++) {
            if (type == 8) {
                CHECKS.due("an array of void", x.makeArray(8, 1), -2);
                continue;
            }
            int length = type % 9;
            CHECKS.due("makeArray of " + type, x.makeArray(type, length), made);
            CHECKS.due("its class", x.classOf(made), 22 + made);
            CHECKS.due("its component", x.component(22 + made), type);
            CHECKS.due("its length", x.length(made), length);
            for (int i = 0; i < length; i++) {
                CHECKS.due("load of a new array of " + type, x.load(made, i), type < 8 ? -1 : -7);
                CHECKS.due("get of a new array of " + type, x.get(made, i), type < 8 ? 0 : ABSENT);
            }
            made++;
        }
        CHECKS.due("a second array of a type", x.makeArray(3, 2), made);
        CHECKS.due("has the same class", x.classOf(made), 25);
        CHECKS.due("types", x.count(0), 43);
        CHECKS.due("objects", x.count(1), made + 1);
    }

    private static void lengthsThatAreRefused() {
        ClassObjectMirror x = new ClassObjectMirror();
        CHECKS.due("length -1", x.makeArray(4, -1), -3);
        CHECKS.due("the least length", x.makeArray(4, Integer.MIN_VALUE), -3);
        CHECKS.due("length 9", x.makeArray(4, 9), -8);
        CHECKS.due("the greatest length", x.makeArray(4, Integer.MAX_VALUE), -8);
        CHECKS.due("no type was numbered", x.count(0), 22);
        CHECKS.due("no object was made", x.count(1), 0);
        CHECKS.due("length 8", x.makeArray(4, 8), 0);
        CHECKS.due("length 0", x.makeArray(4, 0), 1);
        CHECKS.due("length of 8", x.length(0), 8);
        CHECKS.due("length of 0", x.length(1), 0);
        CHECKS.due("put in length 0", x.put(1, 0, 1), -5);
        CHECKS.due("get of length 0", x.get(1, 0), ABSENT);
    }

    private static void orderOfRefusals() {
        ClassObjectMirror x = new ClassObjectMirror();
        for (int type : new int[] {-1, -7, 22, 300, Integer.MIN_VALUE, Integer.MAX_VALUE}) {
            CHECKS.due("makeArray of " + type, x.makeArray(type, 1), -1);
            CHECKS.due("makeArray of " + type + " with length -1", x.makeArray(type, -1), -1);
            CHECKS.due("makeArray of " + type + " with length 9", x.makeArray(type, 9), -1);
        }
        CHECKS.due("void with length -1", x.makeArray(8, -1), -2);
        CHECKS.due("void with length 9", x.makeArray(8, 9), -2);
    }

    private static void fullObjects() {
        ClassObjectMirror x = new ClassObjectMirror();
        for (int i = 0; i < 80; i++) {
            CHECKS.due("makeArray", x.makeArray(4, 8), i);
            x.put(i, 7, i);
        }
        CHECKS.due("an 81st array", x.makeArray(4, 1), -8);
        CHECKS.due("an 81st array of a new type", x.makeArray(5, 1), -8);
        CHECKS.due("the new type has no number", x.count(0), 23);
        CHECKS.due("void before FULL", x.makeArray(8, 1), -2);
        CHECKS.due("NEGATIVE before FULL", x.makeArray(4, -1), -3);
        CHECKS.due("REFUSED before FULL", x.makeArray(23, 1), -1);
        CHECKS.due("an 81st, a copy", x.copy(3), -8);
        CHECKS.due("a copy of no object", x.copy(80), -1);
        CHECKS.due("objects", x.count(1), 80);
        for (int i = 0; i < 80; i++) {
            CHECKS.due("last element of " + i, x.get(i, 7), i);
        }
        ClassObjectMirror y = new ClassObjectMirror();
        for (int i = 0; i < 80; i++) {
            y.make(9, 0);
        }
        CHECKS.due("copy of no array before FULL", y.copy(0), -1);
    }

    private static long asBase(int base, int value) {
        switch (base) {
            case 0:
                return value == 0 ? 0 : 1;
            case 1:
                return (value & 255) < 128 ? value & 255 : (value & 255) - 256;
            case 2:
                return value & 65535;
            case 3:
                return (value & 65535) < 32768 ? value & 65535 : (value & 65535) - 65536;
            case 6:
                return (long) (double) Float.valueOf(Integer.toString(value));
            default:
                return value;
        }
    }

    private static void valuesAsBasesHaveThem() {
        ClassObjectMirror x = new ClassObjectMirror();
        for (int base = 0; base < 8; base++) {
            x.makeArray(base, 3);
            for (int value : VALUES) {
                CHECKS.due("put", x.put(base, 1, value), 0);
                CHECKS.due("get of base " + base + " after " + value, x.get(base, 1), asBase(base, value));
            }
        }
        ClassObjectMirror y = new ClassObjectMirror();
        y.makeArray(6, 1);
        y.put(0, 0, Integer.MAX_VALUE);
        CHECKS.due("a float above every int", y.get(0, 0), 2147483648L);
        y.put(0, 0, 16777219);
        CHECKS.due("a float between two, to the even one", y.get(0, 0), 16777220);
    }

    private static void elementsStandApart() {
        ClassObjectMirror x = new ClassObjectMirror();
        for (int array = 0; array < 3; array++) {
            x.makeArray(4, 8);
        }
        for (int place = 0; place < 24; place++) {
            CHECKS.due("put", x.put(place / 8, place % 8, 1000 + place), 0);
        }
        for (int place = 0; place < 24; place++) {
            CHECKS.due("get", x.get(place / 8, place % 8), 1000 + place);
        }
        for (int index : new int[] {-1, 8, Integer.MIN_VALUE, Integer.MAX_VALUE}) {
            CHECKS.due("put at " + index, x.put(1, index, 5), -5);
            CHECKS.due("get at " + index, x.get(1, index), ABSENT);
        }
        CHECKS.due("the last of the one before", x.get(0, 7), 1007);
        CHECKS.due("the first of the one behind", x.get(2, 0), 1016);
    }

    private static void storedObjects() {
        ClassObjectMirror x = new ClassObjectMirror();
        x.makeArray(14, 3);
        x.make(16, 0);
        x.make(20, 0);
        x.make(19, 0);
        CHECKS.due("store a Circle", x.store(0, 0, 1), -7);
        CHECKS.due("store a Point", x.store(0, 1, 2), -7);
        CHECKS.due("store a Color over it", x.store(0, 1, 3), 2);
        CHECKS.due("load 0", x.load(0, 0), 1);
        CHECKS.due("load 1", x.load(0, 1), 3);
        CHECKS.due("load 2", x.load(0, 2), -7);
        CHECKS.due("store NONE", x.store(0, 0, -7), 1);
        CHECKS.due("load what is gone", x.load(0, 0), -7);
        CHECKS.due("store NONE over NONE", x.store(0, 0, -7), -7);
        CHECKS.due("store the same twice", x.store(0, 2, 3), -7);
        CHECKS.due("load the first of both", x.load(0, 1), 3);
        x.makeArray(9, 1);
        CHECKS.due("an array in itself", x.store(4, 0, 4), -7);
        CHECKS.due("load of it", x.load(4, 0), 4);
        CHECKS.due("object 0 in place of it", x.store(4, 0, 0), 4);
        CHECKS.due("load of object 0", x.load(4, 0), 0);
    }

    private static void storesThatAreBad() {
        ClassObjectMirror x = new ClassObjectMirror();
        x.makeArray(17, 2);
        x.make(17, 0);
        x.make(18, 0);
        x.make(16, 0);
        x.make(9, 0);
        CHECKS.due("a Square among Squares", x.store(0, 0, 1), -7);
        CHECKS.due("a Tile among Squares", x.store(0, 0, 2), 1);
        CHECKS.due("a Circle among Squares", x.store(0, 0, 3), -6);
        CHECKS.due("an Object among Squares", x.store(0, 1, 4), -6);
        CHECKS.due("the array among Squares", x.store(0, 1, 0), -6);
        CHECKS.due("nothing was stored at 0", x.load(0, 0), 2);
        CHECKS.due("nothing was stored at 1", x.load(0, 1), -7);
        for (int index : new int[] {-1, 2, Integer.MIN_VALUE, Integer.MAX_VALUE}) {
            CHECKS.due("store at " + index, x.store(0, index, 1), -5);
            CHECKS.due("a bad store at " + index, x.store(0, index, 3), -5);
            CHECKS.due("NONE at " + index, x.store(0, index, -7), -5);
            CHECKS.due("no object at " + index, x.store(0, index, 5), -1);
            CHECKS.due("load at " + index, x.load(0, index), -5);
        }
    }

    private static void arraysInArrays() {
        ClassObjectMirror x = new ClassObjectMirror();
        x.makeArray(4, 1);
        x.makeArray(x.classOf(0), 2);
        x.makeArray(5, 1);
        x.makeArray(16, 1);
        x.makeArray(x.arrayOf(13), 1);
        x.makeArray(10, 1);
        CHECKS.due("an int array in its like", x.store(1, 0, 0), -7);
        CHECKS.due("a long array among int arrays", x.store(1, 1, 2), -6);
        CHECKS.due("put in an array of arrays", x.put(1, 0, 3), -1);
        CHECKS.due("get in an array of arrays", x.get(1, 0), ABSENT);
        CHECKS.due("Circles among arrays of Shapes", x.store(4, 0, 3), -7);
        CHECKS.due("an int array among arrays of Shapes", x.store(4, 0, 0), -6);
        CHECKS.due("an int array among Cloneables", x.store(5, 0, 0), -7);
        CHECKS.due("load of the Circles", x.load(4, 0), 3);
    }

    private static void wrongKindsOfObjects() {
        ClassObjectMirror x = new ClassObjectMirror();
        x.make(16, 0);
        x.makeArray(4, 2);
        x.makeArray(9, 2);
        for (int index : new int[] {-1, 0, 2}) {
            CHECKS.due("store in a Circle", x.store(0, index, 0), -1);
            CHECKS.due("load from a Circle", x.load(0, index), -1);
            CHECKS.due("put in a Circle", x.put(0, index, 1), -1);
            CHECKS.due("get from a Circle", x.get(0, index), ABSENT);
            CHECKS.due("store in ints", x.store(1, index, 0), -1);
            CHECKS.due("store NONE in ints", x.store(1, index, -7), -1);
            CHECKS.due("load from ints", x.load(1, index), -1);
            CHECKS.due("put in Objects", x.put(2, index, 1), -1);
            CHECKS.due("get from Objects", x.get(2, index), ABSENT);
        }
        CHECKS.due("length of a Circle", x.length(0), -1);
        CHECKS.due("copy of a Circle", x.copy(0), -1);
        CHECKS.due("objects", x.count(1), 3);
        CHECKS.due("ints are as before", x.get(1, 0), 0);
        CHECKS.due("Objects are as before", x.load(2, 0), -7);
    }

    private static void wrongNumbers() {
        ClassObjectMirror x = new ClassObjectMirror();
        x.makeArray(9, 2);
        for (int object : NO_OBJECTS) {
            CHECKS.due("store in " + object, x.store(object, 0, 0), -1);
            CHECKS.due("store NONE in " + object, x.store(object, 0, -7), -1);
            CHECKS.due("load from " + object, x.load(object, 0), -1);
            CHECKS.due("put in " + object, x.put(object, 0, 0), -1);
            CHECKS.due("get from " + object, x.get(object, 0), ABSENT);
            CHECKS.due("length of " + object, x.length(object), -1);
            CHECKS.due("copy of " + object, x.copy(object), -1);
            CHECKS.due("store of " + object, x.store(0, 0, object), object == -7 ? -7 : -1);
        }
        CHECKS.due("nothing was stored", x.load(0, 0), -7);
    }

    private static void copiesOfBases() {
        ClassObjectMirror x = new ClassObjectMirror();
        x.makeArray(4, 3);
        x.makeArray(2, 0);
        x.put(0, 0, 10);
        x.put(0, 2, -12);
        CHECKS.due("copy", x.copy(0), 2);
        CHECKS.due("its class", x.classOf(2), x.classOf(0));
        CHECKS.due("its length", x.length(2), 3);
        CHECKS.due("its first", x.get(2, 0), 10);
        CHECKS.due("its second", x.get(2, 1), 0);
        CHECKS.due("its third", x.get(2, 2), -12);
        x.put(0, 0, 20);
        x.put(2, 1, 30);
        CHECKS.due("the copy stands apart", x.get(2, 0), 10);
        CHECKS.due("what was copied stands apart", x.get(0, 1), 0);
        CHECKS.due("a copy of length 0", x.copy(1), 3);
        CHECKS.due("its class", x.classOf(3), x.classOf(1));
        CHECKS.due("its length", x.length(3), 0);
        CHECKS.due("no types more", x.count(0), 24);
    }

    private static void copiesOfObjects() {
        ClassObjectMirror x = new ClassObjectMirror();
        x.makeArray(15, 8);
        x.make(16, 0);
        x.make(18, 0);
        x.make(9, 0);
        x.store(0, 0, 1);
        x.store(0, 7, 2);
        CHECKS.due("copy", x.copy(0), 4);
        CHECKS.due("its class", x.classOf(4), 22);
        CHECKS.due("its first", x.load(4, 0), 1);
        CHECKS.due("its second", x.load(4, 1), -7);
        CHECKS.due("its last", x.load(4, 7), 2);
        CHECKS.due("a bad store in the copy", x.store(4, 1, 3), -6);
        CHECKS.due("a good store in the copy", x.store(4, 0, 2), 1);
        CHECKS.due("what was copied stands apart", x.load(0, 0), 1);
        CHECKS.due("a copy of the copy", x.copy(4), 5);
        CHECKS.due("its first", x.load(5, 0), 2);
    }
}
