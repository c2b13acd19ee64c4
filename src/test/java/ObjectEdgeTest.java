/** The boundary cases that promises 9, 11 to 13 and 20 name: a test of its own for each sentence. */
public final class ObjectEdgeTest implements Numbers {
    private static final int[] MADE = {OBJECT, STRING, CIRCLE, SQUARE, TILE, POINT, HOLDER};
    private static final int[] NOT_MADE = {
        BOOLEAN, BYTE, CHAR, SHORT, INT, LONG, FLOAT, DOUBLE, VOID, CLONEABLE, SERIALIZABLE, SHAPE, NAMED, BASE, 22, 23};
    private static final int[] NO_OBJECTS = {-1, NONE, FULL, 5, 79, 80, LEAST, GREATEST};

    public static void main(String[] args) {
        Sentences promises = new Sentences();
        promises.test("Promise 9", "Makes an object of the class", ObjectEdgeTest::makeOfEachClass);
        promises.test("Promise 9", "the constant value mod 3 (0 .. 2, rounded down)", ObjectEdgeTest::colorsRoundDown);
        promises.test("Promise 9", "which is one object each", ObjectEdgeTest::colorsAreOneObjectEach);
        promises.test("Promise 9", "its number from the first time on", ObjectEdgeTest::colorsKeepTheirNumbers);
        promises.test("Promise 9", "FULL if an 81st object would be made", ObjectEdgeTest::makeAn81stObject);
        promises.test("Promise 9", "Any other type: REFUSED", ObjectEdgeTest::makeOfAnyOtherType);
        promises.test("Promise 9", "value is kept and can be asked for", ObjectEdgeTest::valuesAreKept);
        promises.test("Promise 11", "The class of an object", ObjectEdgeTest::classOfTheFirstAndTheLast);
        promises.test("Promise 12", "1 if the object is an instance of the type, else 0", ObjectEdgeTest::instances);
        promises.test("Promise 13", "Casts the object to the type: its number, or BAD_CAST", ObjectEdgeTest::casts);
        promises.test("Promise 13", "A base or void: BAD_CAST always", ObjectEdgeTest::castsToBasesAndVoid);
        promises.test("Promise 20", "a Color, 400 + which", ObjectEdgeTest::labelsOfColors);
        promises.test("Promise 20", "for another object REFUSED", ObjectEdgeTest::labelsOfOthers);
        promises.test("Promise 20", "(All wrap.)", ObjectEdgeTest::labelsWrap);
        promises.end();
    }

    private static void makeOfEachClass(Checks c) {
        ClassObjectMirror x = new ClassObjectMirror();
        for (int i = 0; i < MADE.length; i++) {
            c.due("make " + MADE[i], x.make(MADE[i], 4), 2 * i);
            c.due("another " + MADE[i], x.make(MADE[i], 4), 2 * i + 1);
            c.due("class of the first", x.classOf(2 * i), MADE[i]);
            c.due("class of the other", x.classOf(2 * i + 1), MADE[i]);
        }
        c.due("a Color", x.make(COLOR, 4), 14);
        c.due("its class", x.classOf(14), COLOR);
    }

    private static void colorsRoundDown(Checks c) {
        int[] values = {0, 1, 2, 3, -1, -2, -3, -4, GREATEST, GREATEST - 1, LEAST, LEAST + 1};
        int[] constants = {0, 1, 2, 0, 2, 1, 0, 2, 1, 0, 1, 2};
        for (int i = 0; i < values.length; i++) {
            ClassObjectMirror x = new ClassObjectMirror();
            c.due("make(COLOR, " + values[i] + ")", x.make(COLOR, values[i]), 0);
            c.due("its constant", x.label(0), 400 + constants[i]);
            c.due("the constant itself", x.make(COLOR, constants[i]), 0);
        }
    }

    private static void colorsAreOneObjectEach(Checks c) {
        ClassObjectMirror x = new ClassObjectMirror();
        c.due("2", x.make(COLOR, 2), 0);
        c.due("0", x.make(COLOR, 0), 1);
        c.due("1", x.make(COLOR, 1), 2);
        c.due("3 is 0", x.make(COLOR, 3), 1);
        c.due("-1 is 2", x.make(COLOR, -1), 0);
        c.due("4 is 1", x.make(COLOR, 4), 2);
        c.due("objects", x.count(1), 3);
    }

    private static void colorsKeepTheirNumbers(Checks c) {
        ClassObjectMirror x = new ClassObjectMirror();
        x.make(HOLDER, 0);
        c.due("the first time", x.make(COLOR, 0), 1);
        for (int object = 2; object < 79; object++) {
            x.make(HOLDER, 0);
        }
        c.due("again", x.make(COLOR, 0), 1);
        c.due("another as the 80th object", x.make(COLOR, 1), 79);
        c.due("the first, with 80 objects", x.make(COLOR, 3), 1);
        c.due("the other, with 80 objects", x.make(COLOR, -2), 79);
        c.due("the third, with 80 objects", x.make(COLOR, 2), FULL);
        c.due("and again", x.make(COLOR, 2), FULL);
    }

    private static void makeAn81stObject(Checks c) {
        for (int type : MADE) {
            ClassObjectMirror x = new ClassObjectMirror();
            for (int object = 0; object < 79; object++) {
                x.make(HOLDER, 0);
            }
            c.due("the 80th, a " + type, x.make(type, 0), 79);
            c.due("an 81st, a " + type, x.make(type, 0), FULL);
            c.due("objects", x.count(1), 80);
        }
        c.due("an 81st, a Color that there is not", States.fullOfObjects().make(COLOR, 0), FULL);
        c.due("a Color that there is", States.fullOfObjects().make(COLOR, 1), 2);
    }

    private static void makeOfAnyOtherType(Checks c) {
        ClassObjectMirror few = States.few();
        ClassObjectMirror full = States.fullOfObjects();
        for (int type : NOT_MADE) {
            c.due("make " + type, few.make(type, 0), REFUSED);
            c.due("make " + type + ", with 80 objects", full.make(type, 0), REFUSED);
        }
        for (int type : new int[] {-1, NONE, 24, 299, 300, LEAST, GREATEST}) {
            c.due("make " + type + ", no type", few.make(type, 0), REFUSED);
            c.due("make " + type + ", no type, with 80 objects", full.make(type, 0), REFUSED);
        }
        c.due("objects", few.count(1), 5);
    }

    private static void valuesAreKept(Checks c) {
        ClassObjectMirror x = new ClassObjectMirror();
        int[] values = {0, 1, -1, -500, 123456789};
        for (int i = 0; i < values.length; i++) {
            c.due("a Circle", x.make(CIRCLE, values[i]), 4 * i);
            c.due("a Square", x.make(SQUARE, values[i]), 4 * i + 1);
            c.due("a Tile", x.make(TILE, values[i]), 4 * i + 2);
            c.due("a Point", x.make(POINT, values[i]), 4 * i + 3);
        }
        for (int i = 0; i < values.length; i++) {
            c.due("label of a Circle", x.label(4 * i), 100 + values[i]);
            c.due("label of a Square", x.label(4 * i + 1), 100 + values[i]);
            c.due("label of a Tile", x.label(4 * i + 2), 200 + values[i]);
            c.due("label of a Point", x.label(4 * i + 3), 300 + values[i]);
        }
    }

    private static void classOfTheFirstAndTheLast(Checks c) {
        ClassObjectMirror full = States.fullOfObjects();
        c.due("the first", full.classOf(0), 22);
        c.due("the last of 80", full.classOf(79), HOLDER);
        c.due("behind it", full.classOf(80), REFUSED);
        ClassObjectMirror few = States.few();
        c.due("the last of five", few.classOf(4), STRING);
        for (int object : NO_OBJECTS) {
            c.due("of " + object, few.classOf(object), REFUSED);
        }
        ClassObjectMirror deep = States.deep(INT);
        deep.makeArray(275, 0);
        c.due("an array of the most dimensions", deep.classOf(0), 276);
    }

    private static void instances(Checks c) {
        ClassObjectMirror x = States.few();
        c.due("a Circle of its class", x.instance(CIRCLE, 2), 1);
        c.due("a Circle of a type above", x.instance(SHAPE, 2), 1);
        c.due("a Circle of a type beside", x.instance(SQUARE, 2), 0);
        c.due("an int[] of its class", x.instance(23, 1), 1);
        c.due("an int[] of Object", x.instance(OBJECT, 1), 1);
        c.due("an int[] of Named[]", x.instance(22, 1), 0);
        for (int type = BOOLEAN; type <= VOID; type++) {
            c.due("an int[] of " + type, x.instance(type, 1), 0);
            c.due("a Circle of " + type, x.instance(type, 2), 0);
        }
        for (int object : NO_OBJECTS) {
            c.due("object " + object, x.instance(OBJECT, object), REFUSED);
            c.due("object " + object + " of a base", x.instance(INT, object), REFUSED);
        }
        for (int type : new int[] {-1, 24, 300, LEAST, GREATEST}) {
            c.due("type " + type, x.instance(type, 2), REFUSED);
        }
    }

    private static void casts(Checks c) {
        ClassObjectMirror x = States.few();
        c.due("a Circle to its class", x.cast(CIRCLE, 2), 2);
        c.due("a Circle to a type above", x.cast(OBJECT, 2), 2);
        c.due("a Circle to a type beside", x.cast(SQUARE, 2), BAD_CAST);
        c.due("object 0 to its class", x.cast(22, 0), 0);
        c.due("object 0 to Cloneable", x.cast(CLONEABLE, 0), 0);
        c.due("a Named[] to Named", x.cast(NAMED, 0), BAD_CAST);
        c.due("a String to an array type", x.cast(22, 4), BAD_CAST);
        for (int object : NO_OBJECTS) {
            c.due("object " + object, x.cast(OBJECT, object), REFUSED);
        }
        for (int type : new int[] {-1, 24, 300, LEAST, GREATEST}) {
            c.due("to type " + type, x.cast(type, 2), REFUSED);
        }
    }

    private static void castsToBasesAndVoid(Checks c) {
        ClassObjectMirror x = States.few();
        c.due("a boolean[]", x.makeArray(BOOLEAN, 1), 5);
        for (int type = BOOLEAN; type <= VOID; type++) {
            for (int object = 0; object < 6; object++) {
                c.due("object " + object + " to " + type, x.cast(type, object), BAD_CAST);
            }
        }
        c.due("to the type behind void", x.cast(OBJECT, 5), 5);
    }

    /** The constant counts, not the value it was asked for with. */
    private static void labelsOfColors(Checks c) {
        ClassObjectMirror x = new ClassObjectMirror();
        c.due("a Color", x.make(COLOR, -1), 0);
        c.due("another", x.make(COLOR, 3), 1);
        c.due("the last", x.make(COLOR, LEAST), 2);
        c.due("which 2", x.label(0), 402);
        c.due("which 0", x.label(1), 400);
        c.due("which 1", x.label(2), 401);
        c.due("the first again", x.make(COLOR, 2), 0);
        c.due("its label is as before", x.label(0), 402);
    }

    private static void labelsOfOthers(Checks c) {
        ClassObjectMirror x = new ClassObjectMirror();
        int[] others = {x.make(OBJECT, 1), x.make(STRING, 1), x.make(HOLDER, 1), x.makeArray(CIRCLE, 1),
            x.makeArray(INT, 1), x.makeArray(NAMED, 0)};
        for (int object : others) {
            c.due("object " + object, x.label(object), REFUSED);
        }
        for (int object : new int[] {-1, NONE, 6, 79, 80, LEAST, GREATEST}) {
            c.due("no object " + object, x.label(object), REFUSED);
        }
    }

    private static void labelsWrap(Checks c) {
        ClassObjectMirror x = new ClassObjectMirror();
        int[] classes = {CIRCLE, SQUARE, TILE, POINT};
        int[] starts = {100, 100, 200, 300};
        for (int i = 0; i < classes.length; i++) {
            int last = x.make(classes[i], GREATEST - starts[i]);
            int wrapped = x.make(classes[i], GREATEST - starts[i] + 1);
            int greatest = x.make(classes[i], GREATEST);
            int least = x.make(classes[i], LEAST);
            int belowZero = x.make(classes[i], -1 - starts[i]);
            c.due("the last that does not wrap", x.label(last), 2147483647L);
            c.due("the first that wraps", x.label(wrapped), -2147483648L);
            c.due("the greatest value", x.label(greatest), -2147483649L + starts[i]);
            c.due("the least value", x.label(least), -2147483648L + starts[i]);
            c.due("one below 0", x.label(belowZero), -1);
        }
    }
}
