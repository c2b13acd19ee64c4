/** The boundary cases that promises 1 to 8 and 21 name: a test of its own for each sentence. */
public final class TypeEdgeTest implements Numbers {
    private static final int[] NO_TYPES = {-1, -2, NONE, FULL, 22, 299, 300, LEAST, GREATEST};

    public static void main(String[] args) {
        Sentences promises = new Sentences();
        promises.test("Promise 1", "makes an object in the state that the terms give", TypeEdgeTest::aNewObject);
        promises.test("Promise 2", "The number of the array type with this component", TypeEdgeTest::arrayOfWhatThereIs);
        promises.test("Promise 2", "The component is void", TypeEdgeTest::arrayOfVoid);
        promises.test("Promise 2", "or has 255 dimensions: NO_ARRAY", TypeEdgeTest::arrayOf255Dimensions);
        promises.test("Promise 2", "It would be a 301st type: FULL", TypeEdgeTest::arrayOfA301stType);
        promises.test("Promise 3", "The component of an array type", TypeEdgeTest::componentOfArrayTypes);
        promises.test("Promise 3", "NONE for another type", TypeEdgeTest::componentOfOthers);
        promises.test("Promise 4", "0 if it is no array type", TypeEdgeTest::dimensionsOfOthers);
        promises.test("Promise 4", "How many dimensions the type has", TypeEdgeTest::dimensionsOfArrayTypes);
        promises.test("Promise 5", "1 if t is a supertype of s, else 0", TypeEdgeTest::supertypesAreNotTheOtherWay);
        promises.test("Promise 6", "The marks of a type", TypeEdgeTest::marksOfTheFirstAndTheLast);
        promises.test("Promise 7", "1 it is a base or void", TypeEdgeTest::kindsOfBasesAndVoid);
        promises.test("Promise 7", "4 an array type", TypeEdgeTest::kindsOfArrayTypes);
        promises.test("Promise 7", "8 an enum, 16 a record, 32 a member of ClassObjectMirror",
            TypeEdgeTest::kindsOfMembers);
        promises.test("Promise 8", "-1 if there is no such type", TypeEdgeTest::textOfNoType);
        promises.test("Promise 8", "no such type, which", TypeEdgeTest::textOfNoWhich);
        promises.test("Promise 8", "or character", TypeEdgeTest::textWithoutSuchACharacter);
        promises.test("Promise 8", "The character at the index (from 0)", TypeEdgeTest::textOfTheMostDimensions);
        promises.test("Promise 21", "Types that have numbers (0)", TypeEdgeTest::countOfTypes);
        promises.test("Promise 21", "objects made (1)", TypeEdgeTest::countOfObjects);
        promises.test("Promise 21", "else REFUSED", TypeEdgeTest::countOfSomethingElse);
        promises.end();
    }

    private static void aNewObject(Checks c) {
        ClassObjectMirror x = new ClassObjectMirror();
        c.due("types", x.count(0), 22);
        c.due("objects", x.count(1), 0);
        c.due("no array type yet", x.marks(22), REFUSED);
        c.due("no object yet", x.classOf(0), REFUSED);
        c.due("no length yet", x.length(0), REFUSED);
        c.due("no Color yet", x.make(COLOR, 2), 0);
        c.due("no array type of boolean yet", x.arrayOf(BOOLEAN), 22);
        String first = States.seen(new ClassObjectMirror());
        States.seen(States.few());
        c.due("a new one after others", States.seen(new ClassObjectMirror()), first);
    }

    private static void arrayOfWhatThereIs(Checks c) {
        ClassObjectMirror x = States.fullOfTypes();
        c.due("a first one, with 300 types", x.arrayOf(INT), 22);
        c.due("the one of 254 dimensions, with 300 types", x.arrayOf(275), 276);
        c.due("the one of Object, with 300 types", x.arrayOf(OBJECT), 277);
        c.due("the last one, with 300 types", x.arrayOf(298), 299);
        for (int type : NO_TYPES) {
            c.due("of " + type, new ClassObjectMirror().arrayOf(type), REFUSED);
        }
    }

    private static void arrayOfVoid(Checks c) {
        ClassObjectMirror x = new ClassObjectMirror();
        c.due("of void", x.arrayOf(VOID), NO_ARRAY);
        c.due("of the one before", x.arrayOf(DOUBLE), 22);
        c.due("of the one behind", x.arrayOf(OBJECT), 23);
        c.due("of void again", x.arrayOf(VOID), NO_ARRAY);
        c.due("of void, with 300 types", States.fullOfTypes().arrayOf(VOID), NO_ARRAY);
    }

    private static void arrayOf255Dimensions(Checks c) {
        for (int type : new int[] {BOOLEAN, OBJECT, HOLDER}) {
            ClassObjectMirror x = States.deep(type);
            c.due("of 254 dimensions", x.arrayOf(275), 276);
            c.due("of 255 dimensions", x.arrayOf(276), NO_ARRAY);
            c.due("types", x.count(0), 277);
        }
        c.due("of 255 dimensions, with 300 types", States.fullOfTypes().arrayOf(276), NO_ARRAY);
    }

    private static void arrayOfA301stType(Checks c) {
        ClassObjectMirror x = States.deep(INT);
        int array = OBJECT;
        for (int i = 0; i < 22; i++) {
            array = x.arrayOf(array);
        }
        c.due("types, one before the last", x.count(0), 299);
        c.due("the 300th type", x.arrayOf(LONG), 299);
        c.due("a 301st, of a base", x.arrayOf(BYTE), FULL);
        c.due("a 301st, of a class", x.arrayOf(STRING), FULL);
        c.due("a 301st, of an array type", x.arrayOf(array), FULL);
        c.due("a 301st, of the 300th", x.arrayOf(299), FULL);
        c.due("the 300th again", x.arrayOf(LONG), 299);
        c.due("types", x.count(0), 300);
    }

    private static void componentOfArrayTypes(Checks c) {
        ClassObjectMirror x = States.fullOfTypes();
        c.due("of the first array type", x.component(22), INT);
        c.due("of one of two dimensions", x.component(23), 22);
        c.due("of one of 255 dimensions", x.component(276), 275);
        c.due("of one behind it", x.component(277), OBJECT);
        c.due("of the 300th type", x.component(299), 298);
        c.due("of a 301st", x.component(300), REFUSED);
    }

    private static void componentOfOthers(Checks c) {
        ClassObjectMirror x = new ClassObjectMirror();
        for (int type = 0; type < 22; type++) {
            c.due("of " + type, x.component(type), NONE);
        }
        for (int type : NO_TYPES) {
            c.due("of " + type, x.component(type), REFUSED);
        }
    }

    private static void dimensionsOfOthers(Checks c) {
        ClassObjectMirror x = new ClassObjectMirror();
        for (int type = 0; type < 22; type++) {
            c.due("of " + type, x.dimensions(type), 0);
        }
        for (int type : NO_TYPES) {
            c.due("of " + type, x.dimensions(type), REFUSED);
        }
    }

    private static void dimensionsOfArrayTypes(Checks c) {
        ClassObjectMirror x = States.fullOfTypes();
        c.due("of the first array type", x.dimensions(22), 1);
        c.due("of the one with the most", x.dimensions(276), 255);
        c.due("of the one behind it", x.dimensions(277), 1);
        c.due("of the 300th type", x.dimensions(299), 23);
    }

    private static void supertypesAreNotTheOtherWay(Checks c) {
        ClassObjectMirror x = States.deep(CIRCLE);
        c.due("the same fixed type", x.supertype(BOOLEAN, BOOLEAN), 1);
        c.due("void and itself", x.supertype(VOID, VOID), 1);
        c.due("the same array type", x.supertype(276, 276), 1);
        c.due("a direct one", x.supertype(BASE, CIRCLE), 1);
        c.due("one further away", x.supertype(NAMED, CIRCLE), 1);
        c.due("the other way", x.supertype(CIRCLE, BASE), 0);
        c.due("beside it", x.supertype(SQUARE, CIRCLE), 0);
        c.due("one dimension less", x.supertype(275, 276), 0);
        c.due("one dimension more", x.supertype(276, 275), 0);
        c.due("Object and the most dimensions", x.supertype(OBJECT, 276), 1);
        c.due("the most dimensions and Object", x.supertype(276, OBJECT), 0);
        for (int type : new int[] {-1, 277, 300, LEAST, GREATEST}) {
            c.due("first " + type, x.supertype(type, OBJECT), REFUSED);
            c.due("second " + type, x.supertype(OBJECT, type), REFUSED);
            c.due("both " + type, x.supertype(type, type), REFUSED);
        }
    }

    private static void marksOfTheFirstAndTheLast(Checks c) {
        ClassObjectMirror x = States.fullOfTypes();
        c.due("of the first", x.marks(BOOLEAN), 1041);
        c.due("of void", x.marks(VOID), 1041);
        c.due("of the last fixed type", x.marks(HOLDER), 8);
        c.due("of the first array type", x.marks(22), 17);
        c.due("of the 300th", x.marks(299), 17);
        c.due("of a 301st", x.marks(300), REFUSED);
        for (int type : NO_TYPES) {
            c.due("of " + type, new ClassObjectMirror().marks(type), REFUSED);
        }
    }

    private static void kindsOfBasesAndVoid(Checks c) {
        ClassObjectMirror x = new ClassObjectMirror();
        c.due("the first base", x.kinds(BOOLEAN), 1);
        c.due("the last base", x.kinds(DOUBLE), 1);
        c.due("void", x.kinds(VOID), 1);
        c.due("behind void", x.kinds(OBJECT), 0);
        for (int type : NO_TYPES) {
            c.due("of " + type, x.kinds(type), REFUSED);
        }
    }

    /** What the component is does not count: an array of an enum is no enum, an array of a member no member. */
    private static void kindsOfArrayTypes(Checks c) {
        for (int type : new int[] {INT, OBJECT, CLONEABLE, SHAPE, COLOR, POINT, HOLDER}) {
            ClassObjectMirror x = States.deep(type);
            c.due("one dimension of " + type, x.kinds(22), 4);
            c.due("255 dimensions of " + type, x.kinds(276), 4);
            c.due("none behind", x.kinds(277), REFUSED);
        }
        c.due("the 300th type", States.fullOfTypes().kinds(299), 4);
    }

    private static void kindsOfMembers(Checks c) {
        ClassObjectMirror x = new ClassObjectMirror();
        c.due("the last that is no member", x.kinds(STRING), 0);
        c.due("the first member, an interface", x.kinds(SHAPE), 34);
        c.due("the second", x.kinds(NAMED), 34);
        c.due("a class", x.kinds(TILE), 32);
        c.due("the enum", x.kinds(COLOR), 40);
        c.due("the record", x.kinds(POINT), 48);
        c.due("the last", x.kinds(HOLDER), 32);
    }

    private static void textOfNoType(Checks c) {
        ClassObjectMirror x = new ClassObjectMirror();
        for (int type : NO_TYPES) {
            for (int which = 0; which < 3; which++) {
                c.due("text " + which + " of " + type, x.text(type, which, 0), -1);
            }
        }
        c.due("the last type has one", x.text(HOLDER, 0, 0), 'C');
        c.due("the 300th type has one", States.fullOfTypes().text(299, 0, 0), '[');
        c.due("a 301st has none", States.fullOfTypes().text(300, 0, 0), -1);
    }

    private static void textOfNoWhich(Checks c) {
        ClassObjectMirror x = States.few();
        for (int which : new int[] {-1, -2, 3, 4, LEAST, GREATEST}) {
            c.due("which " + which + " of a base", x.text(INT, which, 0), -1);
            c.due("which " + which + " of a class", x.text(OBJECT, which, 0), -1);
            c.due("which " + which + " of an array type", x.text(22, which, 0), -1);
        }
        c.due("which 0", x.text(INT, 0, 0), 'i');
        c.due("which 2", x.text(INT, 2, 0), 'I');
    }

    private static void textWithoutSuchACharacter(Checks c) {
        ClassObjectMirror x = States.few();
        endsAt(c, x, INT, 0, 3, 't');
        endsAt(c, x, INT, 1, 3, 't');
        endsAt(c, x, INT, 2, 1, 'I');
        endsAt(c, x, STRING, 0, 16, 'g');
        endsAt(c, x, STRING, 1, 6, 'g');
        endsAt(c, x, STRING, 2, 18, ';');
        endsAt(c, x, HOLDER, 0, 24, 'r');
        endsAt(c, x, HOLDER, 1, 6, 'r');
        endsAt(c, x, HOLDER, 2, 26, ';');
        endsAt(c, x, 22, 0, 26, ';');
        endsAt(c, x, 22, 1, 7, ']');
        endsAt(c, x, 22, 2, 26, ';');
        endsAt(c, x, 23, 0, 2, 'I');
        endsAt(c, x, 23, 1, 5, ']');
        endsAt(c, x, 23, 2, 2, 'I');
    }

    private static void endsAt(Checks c, ClassObjectMirror x, int type, int which, int length, int last) {
        String told = "text " + which + " of " + type + " at ";
        c.due(told + (length - 1), x.text(type, which, length - 1), last);
        for (int index : new int[] {length, length + 1, length + 2, GREATEST - 1, GREATEST, -1, -2, LEAST}) {
            c.due(told + index, x.text(type, which, index), -1);
        }
    }

    private static void textOfTheMostDimensions(Checks c) {
        ClassObjectMirror x = States.deep(OBJECT);
        c.due("name, the first", x.text(276, 0, 0), '[');
        c.due("name, the last bracket", x.text(276, 0, 254), '[');
        c.due("name, behind the brackets", x.text(276, 0, 255), 'L');
        c.due("name, its first dot", x.text(276, 0, 260), '.');
        c.due("descriptor, for its first dot", x.text(276, 2, 260), '/');
        c.due("simple name, the first", x.text(276, 1, 0), 'O');
        for (int pair = 0; pair < 20; pair++) {
            c.due("simple name, an opening bracket", x.text(276, 1, 6 + 2 * pair), '[');
            c.due("simple name, its closing one", x.text(276, 1, 7 + 2 * pair), ']');
        }
        c.due("simple name, the last opening bracket", x.text(276, 1, 514), '[');
        endsAt(c, x, 276, 0, 273, ';');
        endsAt(c, x, 276, 1, 516, ']');
        endsAt(c, x, 276, 2, 273, ';');
        ClassObjectMirror y = States.deep(BOOLEAN);
        endsAt(c, y, 276, 0, 256, 'Z');
        endsAt(c, y, 276, 1, 517, ']');
        endsAt(c, y, 276, 2, 256, 'Z');
    }

    private static void countOfTypes(Checks c) {
        c.due("the least", new ClassObjectMirror().count(0), 22);
        c.due("with two array types", States.few().count(0), 24);
        c.due("with 255 array types", States.deep(INT).count(0), 277);
        ClassObjectMirror full = States.fullOfTypes();
        c.due("the most", full.count(0), 300);
        c.due("a 301st", full.arrayOf(HOLDER), FULL);
        c.due("the most again", full.count(0), 300);
    }

    private static void countOfObjects(Checks c) {
        c.due("the least", new ClassObjectMirror().count(1), 0);
        c.due("with five", States.few().count(1), 5);
        ClassObjectMirror full = States.fullOfObjects();
        c.due("the most", full.count(1), 80);
        c.due("an 81st", full.make(HOLDER, 0), FULL);
        c.due("the most again", full.count(1), 80);
        c.due("types alone are no objects", States.fullOfTypes().count(1), 0);
    }

    private static void countOfSomethingElse(Checks c) {
        ClassObjectMirror x = States.few();
        for (int what : new int[] {-1, -2, 2, 3, LEAST, GREATEST}) {
            c.due("count " + what, x.count(what), REFUSED);
        }
    }
}
