/** The boundary cases that promises 10 and 14 to 19 name: a test of its own for each sentence. */
public final class ArrayEdgeTest implements Numbers {
    private static final int[] NO_OBJECTS = {-1, NONE, FULL, 5, 79, 80, LEAST, GREATEST};

    public static void main(String[] args) {
        Sentences promises = new Sentences();
        promises.test("Promise 10", "Makes an array of the component type with a length: its number",
            ArrayEdgeTest::lengthsFrom0To8);
        promises.test("Promise 10", "The component is void", ArrayEdgeTest::arraysOfVoid);
        promises.test("Promise 10", "or has 255 dimensions: NO_ARRAY", ArrayEdgeTest::arraysOf255Dimensions);
        promises.test("Promise 10", "the length is negative: NEGATIVE", ArrayEdgeTest::negativeLengths);
        promises.test("Promise 10", "above 8", ArrayEdgeTest::lengthsAbove8);
        promises.test("Promise 10", "or there are 80 objects: FULL", ArrayEdgeTest::arraysWith80Objects);
        promises.test("Promise 10", "then, if its class would be a 301st type: FULL",
            ArrayEdgeTest::arraysOfA301stType);
        promises.test("Promise 14", "Stores object (or NONE)", ArrayEdgeTest::storeOfNone);
        promises.test("Promise 14", "an array of which the component is no base", ArrayEdgeTest::storeInNoBases);
        promises.test("Promise 14", "The array object is no such array: REFUSED", ArrayEdgeTest::storeInNoSuchArray);
        promises.test("Promise 14", "index not 0 .. length - 1: BAD_INDEX", ArrayEdgeTest::storeAtNoIndex);
        promises.test("Promise 14", "BAD_INDEX, before", ArrayEdgeTest::storeAtNoIndexOfNoInstance);
        promises.test("Promise 14", "object is no instance of the component: BAD_STORE",
            ArrayEdgeTest::storeOfNoInstance);
        promises.test("Promise 14", "Else answers the object that was there, or NONE", ArrayEdgeTest::storeOverObjects);
        promises.test("Promise 15", "The element of such an array, or NONE", ArrayEdgeTest::loadOfObjectsAndNone);
        promises.test("Promise 15", "BAD_INDEX", ArrayEdgeTest::loadAtNoIndex);
        promises.test("Promise 15", "REFUSED for other objects", ArrayEdgeTest::loadFromOthers);
        promises.test("Promise 16", "boolean: whether it is not 0", ArrayEdgeTest::booleans);
        promises.test("Promise 16, byte", "byte, short, char: its lowest 8", ArrayEdgeTest::bytesWrap);
        promises.test("Promise 16, short", "or 16 bits", ArrayEdgeTest::shortsWrap);
        promises.test("Promise 16, char", "or 16 bits", ArrayEdgeTest::charsWrap);
        promises.test("Promise 16, int and long", "as the base has it", ArrayEdgeTest::intsAndLongs);
        promises.test("Promise 16, float", "rounded to the nearest", ArrayEdgeTest::floatsAreRounded);
        promises.test("Promise 16, double", "rounded to the nearest", ArrayEdgeTest::doublesHoldEveryInt);
        promises.test("Promise 16", "BAD_INDEX", ArrayEdgeTest::putAtNoIndex);
        promises.test("Promise 16", "REFUSED for other objects", ArrayEdgeTest::putInOthers);
        promises.test("Promise 16", "Else 0", ArrayEdgeTest::putAnswers0);
        promises.test("Promise 17", "as a whole number (boolean 0 or 1)", ArrayEdgeTest::getOfEachBase);
        promises.test("Promise 17", "ABSENT for every other object", ArrayEdgeTest::getFromOthers);
        promises.test("Promise 17", "also for a number that there is not", ArrayEdgeTest::getFromNoObject);
        promises.test("Promise 17", "and where the index is not 0 .. length - 1", ArrayEdgeTest::getAtNoIndex);
        promises.test("Promise 18", "The length of an array", ArrayEdgeTest::lengthOfArrays);
        promises.test("Promise 18", "REFUSED for other objects", ArrayEdgeTest::lengthOfOthers);
        promises.test("Promise 19", "A copy of an array with the same class, length and elements",
            ArrayEdgeTest::copiesOfTheEmptyAndTheLongest);
        promises.test("Promise 19", "REFUSED for other objects", ArrayEdgeTest::copiesOfOthers);
        promises.test("Promise 19", "then FULL if there are 80 objects", ArrayEdgeTest::copiesWith80Objects);
        promises.end();
    }

    private static void lengthsFrom0To8(Checks c) {
        ClassObjectMirror x = new ClassObjectMirror();
        for (int length = 0; length <= 8; length++) {
            c.due("an array of length " + length, x.makeArray(INT, length), length);
            c.due("its length", x.length(length), length);
            c.due("its class", x.classOf(length), 22);
        }
        ClassObjectMirror deep = States.deep(INT);
        c.due("of 254 dimensions", deep.makeArray(275, 8), 0);
        c.due("its class has the most", deep.classOf(0), 276);
        for (int type : new int[] {-1, NONE, 277, 300, LEAST, GREATEST}) {
            c.due("of " + type + ", no type", deep.makeArray(type, 0), REFUSED);
        }
    }

    private static void arraysOfVoid(Checks c) {
        for (ClassObjectMirror x : new ClassObjectMirror[] {
                new ClassObjectMirror(), States.fullOfTypes(), States.fullOfObjects()}) {
            for (int length : new int[] {0, 1, 8, 9, -1, LEAST, GREATEST}) {
                c.due("of void with length " + length, x.makeArray(VOID, length), NO_ARRAY);
            }
        }
    }

    private static void arraysOf255Dimensions(Checks c) {
        for (ClassObjectMirror x : new ClassObjectMirror[] {States.deep(HOLDER), States.fullOfTypes()}) {
            for (int length : new int[] {0, 1, 8, 9, -1, LEAST, GREATEST}) {
                c.due("of 255 dimensions with length " + length, x.makeArray(276, length), NO_ARRAY);
            }
            c.due("of 254 dimensions", x.makeArray(275, 0), 0);
        }
        ClassObjectMirror full = States.deep(HOLDER);
        for (int object = 0; object < 80; object++) {
            full.make(HOLDER, 0);
        }
        c.due("of 255 dimensions, with 80 objects", full.makeArray(276, 0), NO_ARRAY);
    }

    private static void negativeLengths(Checks c) {
        for (int length : new int[] {-1, -2, NONE, LEAST}) {
            c.due("length " + length, States.few().makeArray(INT, length), NEGATIVE);
            c.due("with 80 objects, length " + length, States.fullOfObjects().makeArray(INT, length), NEGATIVE);
            c.due("with 300 types, length " + length, States.fullOfTypes().makeArray(HOLDER, length), NEGATIVE);
        }
        c.due("length 0", States.few().makeArray(INT, 0), 5);
    }

    private static void lengthsAbove8(Checks c) {
        ClassObjectMirror x = new ClassObjectMirror();
        for (int length : new int[] {9, 10, 80, GREATEST}) {
            c.due("length " + length, x.makeArray(INT, length), FULL);
        }
        c.due("no type was numbered", x.count(0), 22);
        c.due("no object was made", x.count(1), 0);
        c.due("length 8", x.makeArray(INT, 8), 0);
    }

    private static void arraysWith80Objects(Checks c) {
        ClassObjectMirror x = new ClassObjectMirror();
        for (int object = 0; object < 79; object++) {
            x.make(HOLDER, 0);
        }
        c.due("the 80th", x.makeArray(INT, 1), 79);
        for (int length : new int[] {0, 1, 8, 9}) {
            c.due("an 81st of length " + length, x.makeArray(INT, length), FULL);
            c.due("an 81st of another class, of length " + length, x.makeArray(LONG, length), FULL);
        }
        c.due("the other class got no number", x.count(0), 23);
        c.due("objects", x.count(1), 80);
    }

    private static void arraysOfA301stType(Checks c) {
        ClassObjectMirror x = States.fullOfTypes();
        c.due("a 301st type", x.makeArray(HOLDER, 1), FULL);
        c.due("a 301st type, length 0", x.makeArray(HOLDER, 0), FULL);
        c.due("a 301st type, of the 300th", x.makeArray(299, 1), FULL);
        c.due("no object was made", x.count(1), 0);
        c.due("a known type", x.makeArray(INT, 1), 0);
        c.due("the 300th type", x.makeArray(298, 1), 1);
        c.due("its class", x.classOf(1), 299);
        ClassObjectMirror y = States.deep(INT);
        int array = OBJECT;
        for (int i = 0; i < 22; i++) {
            array = y.arrayOf(array);
        }
        c.due("an array of the 300th type", y.makeArray(HOLDER, 1), 0);
        c.due("its class", y.classOf(0), 299);
        c.due("an array of a 301st", y.makeArray(LONG, 1), FULL);
    }

    private static void storeOfNone(Checks c) {
        ClassObjectMirror x = States.few();
        c.due("NONE over an object", x.store(0, 1, NONE), 2);
        c.due("it is gone", x.load(0, 1), NONE);
        c.due("NONE over NONE", x.store(0, 1, NONE), NONE);
        c.due("the object is still there", x.classOf(2), CIRCLE);
        c.due("NONE in an array of arrays", x.store(x.makeArray(23, 1), 0, NONE), NONE);
        c.due("no other number below 0", x.store(0, 0, FULL), REFUSED);
        c.due("nor the one above it", x.store(0, 0, BAD_STORE), REFUSED);
    }

    private static void storeInNoBases(Checks c) {
        ClassObjectMirror x = new ClassObjectMirror();
        x.make(TILE, 0);
        for (int type : new int[] {OBJECT, CLONEABLE, NAMED, BASE, SQUARE, TILE}) {
            int array = x.makeArray(type, 8);
            c.due("the first of an array of " + type, x.store(array, 0, 0), NONE);
            c.due("the last of an array of " + type, x.store(array, 7, 0), NONE);
            c.due("the first again", x.load(array, 0), 0);
            c.due("the last again", x.load(array, 7), 0);
        }
        int ints = x.makeArray(INT, 1);
        int arrays = x.makeArray(x.classOf(ints), 1);
        c.due("an array of arrays of a base", x.store(arrays, 0, ints), NONE);
        c.due("what is in it", x.load(arrays, 0), ints);
    }

    private static void storeInNoSuchArray(Checks c) {
        ClassObjectMirror x = States.few();
        for (int index : new int[] {0, -1, 2, 9}) {
            c.due("in an int[] at " + index, x.store(1, index, 2), REFUSED);
            c.due("NONE in an int[] at " + index, x.store(1, index, NONE), REFUSED);
            c.due("in a Circle at " + index, x.store(2, index, 2), REFUSED);
            c.due("in a String at " + index, x.store(4, index, NONE), REFUSED);
        }
        for (int base = BOOLEAN; base <= DOUBLE; base++) {
            c.due("in an array of " + base, x.store(x.makeArray(base, 1), 0, NONE), REFUSED);
        }
        for (int object : new int[] {-1, NONE, 13, 80, LEAST, GREATEST}) {
            c.due("in " + object + ", no object", x.store(object, 0, 2), REFUSED);
        }
        c.due("the int[] is as before", x.get(1, 0), 5);
    }

    private static void storeAtNoIndex(Checks c) {
        ClassObjectMirror x = States.few();
        c.due("at the last index", x.store(0, 2, 3), NONE);
        for (int index : new int[] {-1, 3, 4, 8, LEAST, GREATEST}) {
            c.due("at " + index, x.store(0, index, 2), BAD_INDEX);
            c.due("NONE at " + index, x.store(0, index, NONE), BAD_INDEX);
        }
        int empty = x.makeArray(NAMED, 0);
        c.due("at 0 of an empty one", x.store(empty, 0, 2), BAD_INDEX);
        c.due("NONE at 0 of an empty one", x.store(empty, 0, NONE), BAD_INDEX);
        int longest = x.makeArray(NAMED, 8);
        c.due("behind the longest", x.store(longest, 8, 2), BAD_INDEX);
        c.due("the last of the longest", x.store(longest, 7, 2), NONE);
    }

    private static void storeAtNoIndexOfNoInstance(Checks c) {
        ClassObjectMirror x = States.few();
        for (int index : new int[] {-1, 3, LEAST, GREATEST}) {
            c.due("a String at " + index, x.store(0, index, 4), BAD_INDEX);
        }
        c.due("a String in an empty one", x.store(x.makeArray(NAMED, 0), 0, 4), BAD_INDEX);
    }

    private static void storeOfNoInstance(Checks c) {
        ClassObjectMirror x = States.few();
        c.due("a String among Named", x.store(0, 0, 4), BAD_STORE);
        c.due("a String over a Circle", x.store(0, 1, 4), BAD_STORE);
        c.due("an int[] among Named", x.store(0, 2, 1), BAD_STORE);
        c.due("the array in itself", x.store(0, 2, 0), BAD_STORE);
        c.due("the Circle is still there", x.load(0, 1), 2);
        c.due("none is still there", x.load(0, 2), NONE);
        int squares = x.makeArray(SQUARE, 1);
        c.due("a Circle among Squares", x.store(squares, 0, 2), BAD_STORE);
        c.due("a Tile among Squares", x.store(squares, 0, x.make(TILE, 0)), NONE);
        int arrays = x.makeArray(x.arrayOf(OBJECT), 2);
        c.due("an int[] among Object[]", x.store(arrays, 0, 1), BAD_STORE);
        c.due("a Named[] among Object[]", x.store(arrays, 0, 0), NONE);
        c.due("a Circle among Object[]", x.store(arrays, 1, 2), BAD_STORE);
    }

    private static void storeOverObjects(Checks c) {
        ClassObjectMirror x = new ClassObjectMirror();
        x.makeArray(OBJECT, 1);
        x.make(HOLDER, 0);
        c.due("over none", x.store(0, 0, 0), NONE);
        c.due("over object 0", x.store(0, 0, 1), 0);
        c.due("over the same", x.store(0, 0, 1), 1);
        c.due("what is there now", x.load(0, 0), 1);
    }

    private static void loadOfObjectsAndNone(Checks c) {
        ClassObjectMirror x = States.few();
        c.due("none", x.load(0, 0), NONE);
        c.due("an object", x.load(0, 1), 2);
        c.due("none at the last", x.load(0, 2), NONE);
        ClassObjectMirror full = States.fullOfObjects();
        c.due("itself", full.load(1, 0), 1);
        full.store(1, 0, 79);
        c.due("the last of 80", full.load(1, 0), 79);
        full.store(1, 0, 0);
        c.due("object 0", full.load(1, 0), 0);
    }

    private static void loadAtNoIndex(Checks c) {
        ClassObjectMirror x = States.few();
        for (int index : new int[] {-1, 3, 4, 8, LEAST, GREATEST}) {
            c.due("at " + index, x.load(0, index), BAD_INDEX);
        }
        c.due("at 0 of an empty one", x.load(x.makeArray(NAMED, 0), 0), BAD_INDEX);
        int longest = x.makeArray(NAMED, 8);
        c.due("behind the longest", x.load(longest, 8), BAD_INDEX);
        c.due("the last of the longest", x.load(longest, 7), NONE);
    }

    private static void loadFromOthers(Checks c) {
        ClassObjectMirror x = States.few();
        for (int index : new int[] {0, -1, 2, 9}) {
            c.due("from an int[] at " + index, x.load(1, index), REFUSED);
            c.due("from a Circle at " + index, x.load(2, index), REFUSED);
            c.due("from a String at " + index, x.load(4, index), REFUSED);
        }
        for (int object : NO_OBJECTS) {
            c.due("from " + object + ", no object", x.load(object, 0), REFUSED);
        }
        for (int base = BOOLEAN; base <= DOUBLE; base++) {
            c.due("from an array of " + base, x.load(x.makeArray(base, 1), 0), REFUSED);
        }
    }

    /** Puts each value in a new array of this base, and looks at what the array has then. */
    private static void puts(Checks c, int base, long[][] valuesAndDue) {
        ClassObjectMirror x = new ClassObjectMirror();
        x.makeArray(base, 1);
        for (long[] each : valuesAndDue) {
            c.due("put of " + each[0], x.put(0, 0, (int) each[0]), 0);
            c.due("get after a put of " + each[0], x.get(0, 0), each[1]);
        }
    }

    private static void booleans(Checks c) {
        // 256 and 65536 are not 0, though their lowest bits are.
        puts(c, BOOLEAN, new long[][] {
            {1, 1}, {0, 0}, {2, 1}, {-1, 1}, {0, 0}, {256, 1}, {65536, 1}, {GREATEST, 1}, {LEAST, 1}});
    }

    private static void bytesWrap(Checks c) {
        puts(c, BYTE, new long[][] {
            {127, 127}, {128, -128}, {-128, -128}, {-129, 127}, {255, -1}, {256, 0}, {-256, 0}, {257, 1},
            {GREATEST, -1}, {LEAST, 0}});
    }

    private static void shortsWrap(Checks c) {
        puts(c, SHORT, new long[][] {
            {32767, 32767}, {32768, -32768}, {-32768, -32768}, {-32769, 32767}, {65535, -1}, {65536, 0}, {65537, 1},
            {256, 256}, {GREATEST, -1}, {LEAST, 0}});
    }

    private static void charsWrap(Checks c) {
        puts(c, CHAR, new long[][] {
            {32768, 32768}, {65535, 65535}, {65536, 0}, {65537, 1}, {-1, 65535}, {-65535, 1}, {-65536, 0},
            {256, 256}, {GREATEST, 65535}, {LEAST, 0}});
    }

    private static void intsAndLongs(Checks c) {
        for (int base : new int[] {INT, LONG}) {
            puts(c, base, new long[][] {
                {0, 0}, {-1, -1}, {65536, 65536}, {16777217, 16777217}, {GREATEST, 2147483647L}, {LEAST, -2147483648L}});
        }
    }

    /** Up to 16777216 a float holds every whole number; above it every second one, every fourth one, and so on. */
    private static void floatsAreRounded(Checks c) {
        puts(c, FLOAT, new long[][] {
            {0, 0}, {-1, -1}, {16777215, 16777215}, {16777216, 16777216}, {16777217, 16777216}, {16777218, 16777218},
            {16777219, 16777220}, {-16777217, -16777216}, {-16777219, -16777220}, {33554433, 33554432},
            {33554434, 33554432}, {33554435, 33554436}, {33554438, 33554440}, {2147483583, 2147483520},
            {2147483584, 2147483648L}, {GREATEST, 2147483648L}, {LEAST, -2147483648L}, {LEAST + 64, -2147483648L},
            {LEAST + 65, -2147483520L}});
    }

    private static void doublesHoldEveryInt(Checks c) {
        puts(c, DOUBLE, new long[][] {
            {0, 0}, {-1, -1}, {16777217, 16777217}, {-16777217, -16777217}, {2147483583, 2147483583},
            {GREATEST, 2147483647L}, {LEAST, -2147483648L}});
    }

    private static void putAtNoIndex(Checks c) {
        ClassObjectMirror x = States.few();
        for (int index : new int[] {-1, 2, 3, 8, LEAST, GREATEST}) {
            c.due("at " + index, x.put(1, index, 1), BAD_INDEX);
        }
        c.due("at 0 of an empty one", x.put(x.makeArray(INT, 0), 0, 1), BAD_INDEX);
        int longest = x.makeArray(INT, 8);
        c.due("behind the longest", x.put(longest, 8, 1), BAD_INDEX);
        c.due("the last of the longest", x.put(longest, 7, 1), 0);
    }

    private static void putInOthers(Checks c) {
        ClassObjectMirror x = States.few();
        for (int index : new int[] {0, -1, 3, 9}) {
            c.due("in a Named[] at " + index, x.put(0, index, 1), REFUSED);
            c.due("in a Circle at " + index, x.put(2, index, 1), REFUSED);
            c.due("in a String at " + index, x.put(4, index, 1), REFUSED);
        }
        for (int object : NO_OBJECTS) {
            c.due("in " + object + ", no object", x.put(object, 0, 1), REFUSED);
        }
        int arrays = x.makeArray(23, 1);
        c.due("in an array of int[]", x.put(arrays, 0, 1), REFUSED);
        c.due("the Named[] is as before", x.load(0, 1), 2);
        c.due("the Circle is as before", x.label(2), 107);
    }

    private static void putAnswers0(Checks c) {
        ClassObjectMirror x = new ClassObjectMirror();
        for (int base = BOOLEAN; base <= DOUBLE; base++) {
            x.makeArray(base, 8);
            c.due("first of an array of " + base, x.put(base, 0, 7), 0);
            c.due("last of an array of " + base, x.put(base, 7, LEAST), 0);
            c.due("over what was there", x.put(base, 0, 8), 0);
        }
    }

    private static void getOfEachBase(Checks c) {
        long[] due = {1, -2, 65534, -2, -2, -2, -2, -2};
        ClassObjectMirror x = new ClassObjectMirror();
        for (int base = BOOLEAN; base <= DOUBLE; base++) {
            x.makeArray(base, 8);
            x.put(base, 0, -2);
            x.put(base, 7, -2);
            c.due("first of an array of " + base, x.get(base, 0), due[base]);
            c.due("one between, never put", x.get(base, 3), 0);
            c.due("last of an array of " + base, x.get(base, 7), due[base]);
        }
    }

    private static void getFromOthers(Checks c) {
        ClassObjectMirror x = States.few();
        for (int index : new int[] {0, 1, -1, 3}) {
            c.due("from a Named[] at " + index, x.get(0, index), ABSENT);
            c.due("from a Circle at " + index, x.get(2, index), ABSENT);
            c.due("from a Color at " + index, x.get(3, index), ABSENT);
            c.due("from a String at " + index, x.get(4, index), ABSENT);
        }
        c.due("from an array of int[]", x.get(x.makeArray(23, 1), 0), ABSENT);
    }

    private static void getFromNoObject(Checks c) {
        ClassObjectMirror x = States.few();
        for (int object : NO_OBJECTS) {
            c.due("from " + object, x.get(object, 0), ABSENT);
            c.due("from " + object + " at no index", x.get(object, -1), ABSENT);
        }
        c.due("from a new object", new ClassObjectMirror().get(0, 0), ABSENT);
    }

    private static void getAtNoIndex(Checks c) {
        ClassObjectMirror x = States.few();
        c.due("at the last index", x.get(1, 1), -6);
        for (int index : new int[] {-1, 2, 3, 8, LEAST, GREATEST}) {
            c.due("at " + index, x.get(1, index), ABSENT);
        }
        c.due("at 0 of an empty one", x.get(x.makeArray(INT, 0), 0), ABSENT);
        int longest = x.makeArray(INT, 8);
        c.due("behind the longest", x.get(longest, 8), ABSENT);
        c.due("the last of the longest", x.get(longest, 7), 0);
    }

    private static void lengthOfArrays(Checks c) {
        ClassObjectMirror x = new ClassObjectMirror();
        c.due("the shortest", x.length(x.makeArray(INT, 0)), 0);
        c.due("the longest", x.length(x.makeArray(INT, 8)), 8);
        c.due("the shortest of objects", x.length(x.makeArray(OBJECT, 0)), 0);
        c.due("the longest of objects", x.length(x.makeArray(OBJECT, 8)), 8);
        c.due("one of full length, as before", x.length(1), 8);
    }

    private static void lengthOfOthers(Checks c) {
        ClassObjectMirror x = States.few();
        for (int object : new int[] {2, 3, 4}) {
            c.due("of object " + object, x.length(object), REFUSED);
        }
        for (int object : NO_OBJECTS) {
            c.due("of " + object + ", no object", x.length(object), REFUSED);
        }
    }

    private static void copiesOfTheEmptyAndTheLongest(Checks c) {
        ClassObjectMirror x = States.fullOfTypes();
        x.makeArray(INT, 0);
        x.makeArray(INT, 8);
        x.makeArray(OBJECT, 8);
        x.put(1, 0, 10);
        x.put(1, 7, 17);
        x.store(2, 0, 2);
        x.store(2, 7, 1);
        for (int object = 0; object < 3; object++) {
            c.due("a copy, with 300 types", x.copy(object), 3 + object);
            c.due("its class", x.classOf(3 + object), object < 2 ? 22 : 277);
            c.due("its length", x.length(3 + object), object == 0 ? 0 : 8);
        }
        c.due("first of the ints", x.get(4, 0), 10);
        c.due("one between", x.get(4, 3), 0);
        c.due("last of the ints", x.get(4, 7), 17);
        c.due("first of the objects, the one that was copied", x.load(5, 0), 2);
        c.due("one between", x.load(5, 3), NONE);
        c.due("last of the objects", x.load(5, 7), 1);
        c.due("the empty one has no elements", x.get(3, 0), ABSENT);
        x.put(4, 7, 99);
        x.store(2, 7, NONE);
        c.due("what was copied stands apart", x.get(1, 7), 17);
        c.due("the copy stands apart", x.load(5, 7), 1);
    }

    private static void copiesOfOthers(Checks c) {
        ClassObjectMirror few = States.few();
        for (int object : new int[] {2, 3, 4}) {
            c.due("of object " + object, few.copy(object), REFUSED);
        }
        for (int object : NO_OBJECTS) {
            c.due("of " + object + ", no object", few.copy(object), REFUSED);
        }
        ClassObjectMirror full = States.fullOfObjects();
        c.due("of a Color, with 80 objects", full.copy(2), REFUSED);
        c.due("of a Holder, with 80 objects", full.copy(79), REFUSED);
        c.due("of no object, with 80 objects", full.copy(80), REFUSED);
    }

    private static void copiesWith80Objects(Checks c) {
        ClassObjectMirror x = States.few();
        for (int object = 5; object < 79; object++) {
            x.make(HOLDER, 0);
        }
        c.due("the 80th", x.copy(1), 79);
        c.due("its last element", x.get(79, 1), -6);
        c.due("an 81st", x.copy(1), FULL);
        c.due("an 81st, of objects", x.copy(0), FULL);
        c.due("an 81st, of the copy", x.copy(79), FULL);
        c.due("objects", x.count(1), 80);
    }
}
