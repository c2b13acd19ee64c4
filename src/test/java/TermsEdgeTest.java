import java.util.function.Supplier;
import java.util.function.ToLongFunction;

/** The boundary cases that the document's section 'Terms' names: a test of its own for each sentence. */
public final class TermsEdgeTest implements Numbers {
    public static void main(String[] args) {
        Sentences terms = new Sentences();
        terms.test("What it is", "An object is used for at most 512 calls", TermsEdgeTest::theLastCallOfAll);
        terms.test("Terms", "0 .. 21 are fixed", TermsEdgeTest::fixedTypes);
        terms.test("Terms", "a BASE is one of 0 .. 7", TermsEdgeTest::bases);
        terms.test("Terms", "its code (one character, for 0 .. 8)", TermsEdgeTest::codes);
        terms.test("Terms", "what stands behind the last dot of their name", TermsEdgeTest::behindTheLastDot);
        terms.test("Terms", "Numbers from 22 on are given to ARRAY types", TermsEdgeTest::arrayTypesFrom22On);
        terms.test("Terms", "as they are first asked for, one number a type", TermsEdgeTest::oneNumberAType);
        terms.test("Terms", "there are at most 300 types in all", TermsEdgeTest::threeHundredTypes);
        terms.test("Terms", "if that is an array type, else 1", TermsEdgeTest::dimensions);
        terms.test("Terms", "its component's name if that is an array type, else the code of a base, else L",
            TermsEdgeTest::namesOfArrays);
        terms.test("Terms", "with / for every dot", TermsEdgeTest::everyDot);
        terms.test("Terms", "Its simple name is its component's and []", TermsEdgeTest::simpleNamesOfArrays);
        terms.test("Terms", "Its marks are 16 and the PUBLIC, PRIVATE, PROTECTED of its component",
            TermsEdgeTest::marksOfArrays);
        terms.test("Terms", "S is an array type and T is 9, 10 or 11", TermsEdgeTest::aboveEveryArray);
        terms.test("Terms", "whose components are no bases", TermsEdgeTest::componentsThatAreBases);
        terms.test("Terms", "bases and void, and arrays of bases, have no others but for these",
            TermsEdgeTest::noOtherSupertypes);
        terms.test("Terms", "OBJECTS have numbers from 0 on as they are made", TermsEdgeTest::objectsFrom0On);
        terms.test("Terms", "at most 80 are made", TermsEdgeTest::eightyObjects);
        terms.test("Terms", "at first 0 for components that are bases (false for boolean)",
            TermsEdgeTest::firstElementsOfBases);
        terms.test("Terms", "else none", TermsEdgeTest::firstElementsOfOthers);
        terms.test("Terms", "A refused call answers REFUSED", TermsEdgeTest::refusedCalls);
        terms.test("Terms, types", "numbers of types or objects that there are not are refused before all else",
            TermsEdgeTest::noTypesBeforeAllElse);
        terms.test("Terms, objects", "numbers of types or objects that there are not are refused before all else",
            TermsEdgeTest::noObjectsBeforeAllElse);
        terms.test("Terms, REFUSED", "have no effect either", TermsEdgeTest::refusedCallsChangeNothing);
        terms.test("Terms, NO_ARRAY", "Calls that answer another number below 0 have no effect either",
            TermsEdgeTest::noArrayChangesNothing);
        terms.test("Terms, NEGATIVE", "Calls that answer another number below 0 have no effect either",
            TermsEdgeTest::negativeChangesNothing);
        terms.test("Terms, BAD_CAST", "Calls that answer another number below 0 have no effect either",
            TermsEdgeTest::badCastChangesNothing);
        terms.test("Terms, BAD_INDEX", "Calls that answer another number below 0 have no effect either",
            TermsEdgeTest::badIndexChangesNothing);
        terms.test("Terms, BAD_STORE", "Calls that answer another number below 0 have no effect either",
            TermsEdgeTest::badStoreChangesNothing);
        terms.test("Terms, NONE", "Calls that answer another number below 0 have no effect either",
            TermsEdgeTest::noneChangesNothing);
        terms.test("Terms, FULL", "Calls that answer another number below 0 have no effect either",
            TermsEdgeTest::fullChangesNothing);
        terms.end();
    }

    private static void theLastCallOfAll(Checks c) {
        ClassObjectMirror x = States.fullOfTypes();
        for (int object = 0; object < 80; object++) {
            c.due("calls 279 to 358, makeArray", x.makeArray(22 + object, 8), object);
        }
        for (int i = 0; i < 153; i++) {
            int array = i % 79 + 1;
            c.due("calls 359 to 511, store", x.store(array, i / 79, array - 1), NONE);
        }
        c.due("call 512, load", x.load(79, 0), 78);
    }

    private static void fixedTypes(Checks c) {
        ClassObjectMirror x = new ClassObjectMirror();
        c.due("type -1", x.kinds(-1), REFUSED);
        c.due("type 0", x.kinds(0), 1);
        c.due("type 21", x.kinds(21), 32);
        c.due("type 22", x.kinds(22), REFUSED);
        c.due("types", x.count(0), 22);
    }

    private static void bases(Checks c) {
        ClassObjectMirror x = new ClassObjectMirror();
        c.due("an array of 0, the first base", x.makeArray(0, 1), 0);
        c.due("an array of 7, the last base", x.makeArray(7, 1), 1);
        c.due("an array of 9, no base", x.makeArray(9, 1), 2);
        c.due("put in an array of 0", x.put(0, 0, 1), 0);
        c.due("put in an array of 7", x.put(1, 0, 1), 0);
        c.due("put in an array of 9", x.put(2, 0, 1), REFUSED);
        c.due("8 has no arrays, as every base has", x.arrayOf(8), NO_ARRAY);
    }

    private static void codes(Checks c) {
        ClassObjectMirror x = new ClassObjectMirror();
        for (int type = BOOLEAN; type <= VOID; type++) {
            c.due("code of " + type, x.text(type, 2, 0), "ZBCSIJFDV".charAt(type));
            c.due("behind the code of " + type, x.text(type, 2, 1), -1);
        }
        c.due("9 has no code", x.text(OBJECT, 2, 0), 'L');
        c.due("behind the L", x.text(OBJECT, 2, 1), 'j');
    }

    private static void behindTheLastDot(Checks c) {
        ClassObjectMirror x = new ClassObjectMirror();
        c.due("a name without a dot", text(x, INT, 1), "int");
        c.due("void", text(x, VOID, 1), "void");
        c.due("a name with two dots", text(x, OBJECT, 1), "Object");
        c.due("the last with dots", text(x, STRING, 1), "String");
        c.due("the first member", text(x, SHAPE, 1), "Shape");
    }

    private static String text(ClassObjectMirror x, int type, int which) {
        StringBuilder text = new StringBuilder();
        int character = x.text(type, which, 0);
        while (character >= 0 && text.length() < 300) {
            text.append((char) character);
            character = x.text(type, which, text.length());
        }
        return text.toString();
    }

    private static void arrayTypesFrom22On(Checks c) {
        ClassObjectMirror x = new ClassObjectMirror();
        c.due("the first, by arrayOf", x.arrayOf(HOLDER), 22);
        c.due("the second, by makeArray", x.makeArray(BOOLEAN, 0), 0);
        c.due("its number", x.classOf(0), 23);
        c.due("the third, of the first", x.arrayOf(22), 24);
        c.due("the fourth, of the third", x.arrayOf(24), 25);
        c.due("no fifth", x.component(26), REFUSED);
    }

    private static void oneNumberAType(Checks c) {
        ClassObjectMirror x = new ClassObjectMirror();
        c.due("by arrayOf", x.arrayOf(POINT), 22);
        c.due("by makeArray", x.makeArray(INT, 1), 0);
        c.due("by arrayOf again", x.arrayOf(POINT), 22);
        c.due("of makeArray's", x.arrayOf(INT), 23);
        c.due("by makeArray of arrayOf's", x.makeArray(POINT, 1), 1);
        c.due("its class", x.classOf(1), 22);
        c.due("by copy", x.copy(0), 2);
        c.due("its class", x.classOf(2), 23);
        c.due("types", x.count(0), 24);
    }

    private static void threeHundredTypes(Checks c) {
        ClassObjectMirror x = States.deep(INT);
        int array = OBJECT;
        for (int number = 277; number < 300; number++) {
            array = x.arrayOf(array);
            c.due("the next type", array, number);
        }
        c.due("types", x.count(0), 300);
        c.due("one more", x.arrayOf(299), FULL);
        c.due("types are as many", x.count(0), 300);
        c.due("299 is a type", x.dimensions(299), 23);
        c.due("300 is none", x.dimensions(300), REFUSED);
    }

    private static void dimensions(Checks c) {
        ClassObjectMirror x = States.deep(BOOLEAN);
        c.due("no array type", x.dimensions(BOOLEAN), 0);
        c.due("its component is no array type", x.dimensions(22), 1);
        c.due("its component is one", x.dimensions(23), 2);
        c.due("the most", x.dimensions(276), 255);
    }

    private static void namesOfArrays(Checks c) {
        ClassObjectMirror x = new ClassObjectMirror();
        c.due("of a base", text(x, x.arrayOf(LONG), 0), "[J");
        c.due("of a class", text(x, x.arrayOf(STRING), 0), "[Ljava.lang.String;");
        c.due("of a member", text(x, x.arrayOf(TILE), 0), "[LClassObjectMirror$Tile;");
        c.due("of an array of a base", text(x, x.arrayOf(x.arrayOf(LONG)), 0), "[[J");
        c.due("of an array of a class", text(x, x.arrayOf(x.arrayOf(STRING)), 0), "[[Ljava.lang.String;");
    }

    private static void everyDot(Checks c) {
        ClassObjectMirror x = new ClassObjectMirror();
        c.due("of a class", text(x, SERIALIZABLE, 2), "Ljava/io/Serializable;");
        c.due("of an array of it", text(x, x.arrayOf(SERIALIZABLE), 2), "[Ljava/io/Serializable;");
        c.due("of a member", text(x, BASE, 2), "LClassObjectMirror$Base;");
        c.due("the name keeps its dots", text(x, x.arrayOf(SERIALIZABLE), 0), "[Ljava.io.Serializable;");
    }

    private static void simpleNamesOfArrays(Checks c) {
        ClassObjectMirror x = new ClassObjectMirror();
        c.due("of a base", text(x, x.arrayOf(INT), 1), "int[]");
        c.due("of a class", text(x, x.arrayOf(OBJECT), 1), "Object[]");
        c.due("of a member", text(x, x.arrayOf(HOLDER), 1), "Holder[]");
        c.due("of an array of a member", text(x, x.arrayOf(x.arrayOf(HOLDER)), 1), "Holder[][]");
    }

    private static void marksOfArrays(Checks c) {
        ClassObjectMirror x = States.deep(SHAPE);
        c.due("of PRIVATE", x.marks(22), 18);
        c.due("of 255 dimensions of PRIVATE", x.marks(276), 18);
        c.due("of PUBLIC, FINAL and ABSTRACT", x.marks(x.arrayOf(INT)), 17);
        c.due("of PUBLIC alone", x.marks(x.arrayOf(OBJECT)), 17);
        c.due("of neither, not FINAL", x.marks(x.arrayOf(HOLDER)), 16);
        c.due("of neither, FINAL", x.marks(x.arrayOf(TILE)), 16);
    }

    private static void aboveEveryArray(Checks c) {
        ClassObjectMirror x = States.deep(INT);
        for (int type : new int[] {OBJECT, CLONEABLE, SERIALIZABLE}) {
            c.due(type + " above int[]", x.supertype(type, 22), 1);
            c.due(type + " above the most dimensions", x.supertype(type, 276), 1);
            c.due(type + " below int[]", x.supertype(22, type), 0);
        }
        c.due("the one before them", x.supertype(VOID, 22), 0);
        c.due("the one behind them", x.supertype(STRING, 22), 0);
        c.due("Object[] above int[][]", x.supertype(x.arrayOf(OBJECT), 23), 1);
        c.due("Cloneable[] above the most dimensions", x.supertype(x.arrayOf(CLONEABLE), 276), 1);
    }

    private static void componentsThatAreBases(Checks c) {
        ClassObjectMirror x = new ClassObjectMirror();
        int[] arrays = new int[8];
        for (int base = BOOLEAN; base <= DOUBLE; base++) {
            arrays[base] = x.arrayOf(base);
        }
        int objects = x.arrayOf(OBJECT);
        for (int t = BOOLEAN; t <= DOUBLE; t++) {
            for (int s = BOOLEAN; s <= DOUBLE; s++) {
                c.due("arrays of " + t + " above arrays of " + s, x.supertype(arrays[t], arrays[s]), t == s ? 1 : 0);
            }
            c.due("Object[] above arrays of " + t, x.supertype(objects, arrays[t]), 0);
            c.due("arrays of " + t + " above Object[]", x.supertype(arrays[t], objects), 0);
        }
    }

    private static void noOtherSupertypes(Checks c) {
        ClassObjectMirror x = new ClassObjectMirror();
        int ints = x.arrayOf(INT);
        for (int t = 0; t < 22; t++) {
            for (int s : new int[] {BOOLEAN, INT, LONG, DOUBLE, VOID}) {
                c.due(t + " above " + s, x.supertype(t, s), t == s ? 1 : 0);
            }
            c.due(t + " above int[]", x.supertype(t, ints), t == 9 || t == 10 || t == 11 ? 1 : 0);
        }
        c.due("int[] above int", x.supertype(ints, INT), 0);
        c.due("int[] above void", x.supertype(ints, VOID), 0);
    }

    private static void objectsFrom0On(Checks c) {
        ClassObjectMirror x = new ClassObjectMirror();
        c.due("none yet", x.classOf(0), REFUSED);
        c.due("the first", x.make(OBJECT, 0), 0);
        c.due("the second", x.makeArray(OBJECT, 0), 1);
        c.due("the third", x.copy(1), 2);
        c.due("the fourth", x.make(COLOR, 2), 3);
        c.due("the fourth again", x.make(COLOR, 2), 3);
        c.due("the fifth", x.make(COLOR, 0), 4);
        c.due("no sixth", x.classOf(5), REFUSED);
        c.due("before the first", x.classOf(-1), REFUSED);
    }

    private static void eightyObjects(Checks c) {
        ClassObjectMirror x = new ClassObjectMirror();
        for (int object = 0; object < 79; object++) {
            x.make(HOLDER, 0);
        }
        c.due("the 80th", x.makeArray(BYTE, 8), 79);
        c.due("an 81st by make", x.make(HOLDER, 0), FULL);
        c.due("an 81st by makeArray", x.makeArray(BYTE, 0), FULL);
        c.due("an 81st by copy", x.copy(79), FULL);
        c.due("an 81st by make of a Color", x.make(COLOR, 0), FULL);
        c.due("objects", x.count(1), 80);
        c.due("the last", x.classOf(79), 22);
        c.due("behind the last", x.classOf(80), REFUSED);
    }

    private static void firstElementsOfBases(Checks c) {
        ClassObjectMirror x = new ClassObjectMirror();
        for (int base = BOOLEAN; base <= DOUBLE; base++) {
            c.due("an array of " + base, x.makeArray(base, 8), base);
            for (int index = 0; index < 8; index++) {
                c.due("element " + index + " of a new array of " + base, x.get(base, index), 0);
            }
        }
        c.due("an empty one has no elements", x.get(x.makeArray(INT, 0), 0), ABSENT);
    }

    private static void firstElementsOfOthers(Checks c) {
        ClassObjectMirror x = new ClassObjectMirror();
        int array = 0;
        for (int type : new int[] {OBJECT, NAMED, BASE, HOLDER, x.arrayOf(INT), x.arrayOf(OBJECT)}) {
            c.due("an array of " + type, x.makeArray(type, 8), array);
            for (int index = 0; index < 8; index++) {
                c.due("element " + index + " of a new array of " + type, x.load(array, index), NONE);
            }
            array++;
        }
        c.due("an empty one has no elements", x.load(x.makeArray(OBJECT, 0), 0), BAD_INDEX);
    }

    /** The reasons for refusing a call but for numbers that there are not, which have tests of their own. */
    private static void refusedCalls(Checks c) {
        ClassObjectMirror x = States.few();
        c.due("make of an interface", x.make(SHAPE, 0), REFUSED);
        c.due("make of an abstract class", x.make(BASE, 0), REFUSED);
        c.due("make of an array type", x.make(22, 0), REFUSED);
        c.due("store in no array", x.store(2, 0, 2), REFUSED);
        c.due("store in an array of a base", x.store(1, 0, 2), REFUSED);
        c.due("load from no array", x.load(2, 0), REFUSED);
        c.due("load from an array of a base", x.load(1, 0), REFUSED);
        c.due("put in no array", x.put(2, 0, 1), REFUSED);
        c.due("put in an array of no base", x.put(0, 0, 1), REFUSED);
        c.due("length of no array", x.length(2), REFUSED);
        c.due("copy of no array", x.copy(2), REFUSED);
        c.due("label of what has none", x.label(4), REFUSED);
        c.due("count of something else", x.count(2), REFUSED);
    }

    private static void noTypesBeforeAllElse(Checks c) {
        ClassObjectMirror x = States.few();
        for (int type : new int[] {-1, NONE, FULL, 24, 299, 300, LEAST, GREATEST}) {
            String told = " with type " + type;
            c.due("arrayOf" + told, x.arrayOf(type), REFUSED);
            c.due("component" + told, x.component(type), REFUSED);
            c.due("dimensions" + told, x.dimensions(type), REFUSED);
            c.due("supertype, first" + told, x.supertype(type, INT), REFUSED);
            c.due("supertype, second" + told, x.supertype(INT, type), REFUSED);
            c.due("supertype, though they are the same," + told, x.supertype(type, type), REFUSED);
            c.due("marks" + told, x.marks(type), REFUSED);
            c.due("kinds" + told, x.kinds(type), REFUSED);
            c.due("text" + told, x.text(type, 0, 0), REFUSED);
            c.due("make" + told, x.make(type, 0), REFUSED);
            c.due("makeArray" + told, x.makeArray(type, 1), REFUSED);
            c.due("makeArray before NEGATIVE" + told, x.makeArray(type, -1), REFUSED);
            c.due("makeArray before FULL" + told, x.makeArray(type, 9), REFUSED);
            c.due("instance" + told, x.instance(type, 2), REFUSED);
            c.due("instance, neither" + told, x.instance(type, 5), REFUSED);
            c.due("cast before BAD_CAST" + told, x.cast(type, 2), REFUSED);
            c.due("cast, neither" + told, x.cast(type, 5), REFUSED);
        }
        c.due("arrayOf before FULL", States.fullOfTypes().arrayOf(300), REFUSED);
        c.due("makeArray before FULL of types", States.fullOfTypes().makeArray(300, 1), REFUSED);
        c.due("makeArray before FULL of objects", States.fullOfObjects().makeArray(24, 1), REFUSED);
        c.due("make before FULL of objects", States.fullOfObjects().make(24, 1), REFUSED);
    }

    private static void noObjectsBeforeAllElse(Checks c) {
        ClassObjectMirror x = States.few();
        for (int object : new int[] {-1, FULL, 5, 79, 80, LEAST, GREATEST}) {
            String told = " with object " + object;
            c.due("classOf" + told, x.classOf(object), REFUSED);
            c.due("instance" + told, x.instance(OBJECT, object), REFUSED);
            c.due("instance of a base" + told, x.instance(INT, object), REFUSED);
            c.due("cast" + told, x.cast(OBJECT, object), REFUSED);
            c.due("cast to a base, before BAD_CAST," + told, x.cast(INT, object), REFUSED);
            c.due("cast to void, before BAD_CAST," + told, x.cast(VOID, object), REFUSED);
            c.due("store in it" + told, x.store(object, 0, 2), REFUSED);
            c.due("store in it before BAD_INDEX" + told, x.store(object, -1, 2), REFUSED);
            c.due("store of it before BAD_STORE" + told, x.store(0, 0, object), REFUSED);
            c.due("store of it before BAD_INDEX" + told, x.store(0, 3, object), REFUSED);
            c.due("load" + told, x.load(object, 0), REFUSED);
            c.due("load before BAD_INDEX" + told, x.load(object, -1), REFUSED);
            c.due("put" + told, x.put(object, 0, 1), REFUSED);
            c.due("put before BAD_INDEX" + told, x.put(object, -1, 1), REFUSED);
            c.due("length" + told, x.length(object), REFUSED);
            c.due("copy" + told, x.copy(object), REFUSED);
            c.due("label" + told, x.label(object), REFUSED);
        }
        c.due("copy before FULL", States.fullOfObjects().copy(80), REFUSED);
        noneIsNoObject(c, x);
    }

    /** NONE stands for an object as the last argument of store alone. */
    private static void noneIsNoObject(Checks c, ClassObjectMirror x) {
        c.due("classOf NONE", x.classOf(NONE), REFUSED);
        c.due("instance NONE", x.instance(OBJECT, NONE), REFUSED);
        c.due("cast NONE", x.cast(OBJECT, NONE), REFUSED);
        c.due("store in NONE", x.store(NONE, 0, NONE), REFUSED);
        c.due("load from NONE", x.load(NONE, 0), REFUSED);
        c.due("put in NONE", x.put(NONE, 0, 1), REFUSED);
        c.due("length of NONE", x.length(NONE), REFUSED);
        c.due("copy of NONE", x.copy(NONE), REFUSED);
        c.due("label of NONE", x.label(NONE), REFUSED);
    }

    /** Makes the state twice and the call on one of both: what is seen of them afterwards has to be the same. */
    private static void changesNothing(Checks c, String told, Supplier<ClassObjectMirror> state, long due,
            ToLongFunction<ClassObjectMirror> call) {
        ClassObjectMirror x = state.get();
        c.due(told, call.applyAsLong(x), due);
        c.due("the state after " + told, States.seen(x), States.seen(state.get()));
    }

    private static void refusedCallsChangeNothing(Checks c) {
        changesNothing(c, "arrayOf(24)", States::few, REFUSED, x -> x.arrayOf(24));
        changesNothing(c, "make(BASE)", States::few, REFUSED, x -> x.make(BASE, 1));
        changesNothing(c, "make(22)", States::few, REFUSED, x -> x.make(22, 1));
        changesNothing(c, "makeArray(24)", States::few, REFUSED, x -> x.makeArray(24, 1));
        changesNothing(c, "store in a base's array", States::few, REFUSED, x -> x.store(1, 0, 2));
        changesNothing(c, "store of NONE in it", States::few, REFUSED, x -> x.store(1, 0, NONE));
        changesNothing(c, "store of no object", States::few, REFUSED, x -> x.store(0, 1, 5));
        changesNothing(c, "store in a Circle", States::few, REFUSED, x -> x.store(2, 0, 2));
        changesNothing(c, "put in Named[]", States::few, REFUSED, x -> x.put(0, 1, 9));
        changesNothing(c, "put in a Circle", States::few, REFUSED, x -> x.put(2, 0, 9));
        changesNothing(c, "copy of a Circle", States::few, REFUSED, x -> x.copy(2));
        changesNothing(c, "copy of no object", States::few, REFUSED, x -> x.copy(5));
    }

    private static void noArrayChangesNothing(Checks c) {
        changesNothing(c, "arrayOf(VOID)", States::few, NO_ARRAY, x -> x.arrayOf(VOID));
        changesNothing(c, "makeArray(VOID)", States::few, NO_ARRAY, x -> x.makeArray(VOID, 1));
        changesNothing(c, "a 256th dimension", () -> States.deep(INT), NO_ARRAY, x -> x.arrayOf(276));
        changesNothing(c, "an array of 256", () -> States.deep(INT), NO_ARRAY, x -> x.makeArray(276, 1));
    }

    private static void negativeChangesNothing(Checks c) {
        changesNothing(c, "a new type, length -1", States::few, NEGATIVE, x -> x.makeArray(HOLDER, -1));
        changesNothing(c, "a known type, length -1", States::few, NEGATIVE, x -> x.makeArray(INT, -1));
        changesNothing(c, "the least length", States::few, NEGATIVE, x -> x.makeArray(HOLDER, LEAST));
    }

    private static void badCastChangesNothing(Checks c) {
        changesNothing(c, "a Circle to Square", States::few, BAD_CAST, x -> x.cast(SQUARE, 2));
        changesNothing(c, "an int[] to int", States::few, BAD_CAST, x -> x.cast(INT, 1));
    }

    private static void badIndexChangesNothing(Checks c) {
        for (int index : new int[] {-1, LEAST, GREATEST}) {
            changesNothing(c, "store", States::few, BAD_INDEX, x -> x.store(0, index, 2));
            changesNothing(c, "store of NONE", States::few, BAD_INDEX, x -> x.store(0, index, NONE));
            changesNothing(c, "load", States::few, BAD_INDEX, x -> x.load(0, index));
            changesNothing(c, "put", States::few, BAD_INDEX, x -> x.put(1, index, 9));
        }
        changesNothing(c, "store behind the last", States::few, BAD_INDEX, x -> x.store(0, 3, 2));
        changesNothing(c, "load behind the last", States::few, BAD_INDEX, x -> x.load(0, 3));
        changesNothing(c, "put behind the last", States::few, BAD_INDEX, x -> x.put(1, 2, 9));
    }

    private static void badStoreChangesNothing(Checks c) {
        changesNothing(c, "a String over a Circle", States::few, BAD_STORE, x -> x.store(0, 1, 4));
        changesNothing(c, "a String over none", States::few, BAD_STORE, x -> x.store(0, 0, 4));
        changesNothing(c, "an array in itself", States::few, BAD_STORE, x -> x.store(0, 2, 0));
    }

    /** store is left out: where it answers NONE, this tells what was there before, and the object is stored. */
    private static void noneChangesNothing(Checks c) {
        changesNothing(c, "component of no array type", States::few, NONE, x -> x.component(HOLDER));
        changesNothing(c, "load of none", States::few, NONE, x -> x.load(0, 0));
        changesNothing(c, "get of a number below 0", States::few, -6, x -> x.get(1, 1));
    }

    private static void fullChangesNothing(Checks c) {
        changesNothing(c, "length 9 of a new type", States::few, FULL, x -> x.makeArray(HOLDER, 9));
        changesNothing(c, "length 9 of a known type", States::few, FULL, x -> x.makeArray(INT, 9));
        changesNothing(c, "a 301st type", States::fullOfTypes, FULL, x -> x.arrayOf(HOLDER));
        changesNothing(c, "an array of a 301st", States::fullOfTypes, FULL, x -> x.makeArray(HOLDER, 1));
        changesNothing(c, "an 81st object", States::fullOfObjects, FULL, x -> x.make(CIRCLE, 1));
        changesNothing(c, "an 81st object, a Color", States::fullOfObjects, FULL, x -> x.make(COLOR, 0));
        changesNothing(c, "an 81st, an array", States::fullOfObjects, FULL, x -> x.makeArray(INT, 1));
        changesNothing(c, "an 81st, of a new type", States::fullOfObjects, FULL, x -> x.makeArray(HOLDER, 1));
        changesNothing(c, "an 81st, a copy", States::fullOfObjects, FULL, x -> x.copy(0));
    }
}
